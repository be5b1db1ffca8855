/-! the parts of a reading: one chain for both -/
def LK (B : Nat → Nat → Int) (t : Nat → Int) (n : Nat) (R : Nat → Nat → Int) (far total : Int) (bg en et : Nat → Int) (i : Nat) : Prop := ∃ (a b e K : Nat) (wanted : Int), bg i = a ∧ en i = b ∧ et i = e ∧ (i = 0 → a = 0 ∧ K = 9 ∧ wanted = total) ∧ (∀ j, i = j + 1 → en j = a ∧ kd (B 6) (et j) = K ∧ wanted = R a K) ∧ FMG B t n a R far K wanted e b
def CHN (B : Nat → Nat → Int) (t : Nat → Int) (n : Nat) (R : Nat → Nat → Int) (far total : Int) (P : Nat) (bg en et : Nat → Int) : Prop := P ≤ n ∧ (∀ i, i < P → LK B t n R far total bg en et i) ∧ (0 < P → en (P - 1) = n ∧ total < far) ∧ (P = 0 → n = 0 ∨ far ≤ total)
theorem FMG_in {B : Nat → Nat → Int} {t : Nat → Int} {n a : Nat} {R : Nat → Nat → Int} {far k wanted : Int} {e b : Nat} (h : FMG B t n a R far k wanted e b) : a < b ∧ b ≤ n ∧ EV B e ∧ e ≤ 540 ∧ R b (kd (B 6) e).toNat < far ∧ LT B n a b := by
  obtain ⟨c, h1, h2, _⟩ := h.1
  have he : e ≤ 540 := by rcases h1.2.1 with z | z <;> omega
  exact ⟨h1.1.1, h1.1.2, h1.2.1, he, h2, h1.2.2.1.1⟩
theorem FMG_one {B : Nat → Nat → Int} {t : Nat → Int} {n a : Nat} {R R' : Nat → Nat → Int} {far far' k wanted : Int} {e b e' b' : Nat} (hv : ∀ (e b : Nat) (x : Int), viaG B t n a R far k e b x ↔ viaG B t n a R' far' k e b x) (h : FMG B t n a R far k wanted e b) (h' : FMG B t n a R' far' k wanted e' b') : e = e' ∧ b = b' := by
  have h1 : ¬ bfr e b e' b' := fun z => h.2 e' b' z ((hv _ _ _).mpr h'.1)
  have h2 : ¬ bfr e' b' e b := fun z => h'.2 e b z ((hv _ _ _).mp h.1)
  unfold bfr at h1 h2
  omega
def Rel2 (n : Nat) (R R' : Nat → Nat → Int) (far far' : Int) : Prop := ∀ b k : Nat, b ≤ n → k ≤ 8 → ((R b k = far ∧ R' b k = far') ∨ (R b k = R' b k ∧ R b k < far ∧ R' b k < far'))
theorem CHN_one {B : Nat → Nat → Int} {t : Nat → Int} (hW : GW B) {n : Nat} {R R' : Nat → Nat → Int} {far far' total total' : Int} (hR : Rel2 n R R' far far') (ht : (total = far ∧ total' = far') ∨ (total = total' ∧ total < far ∧ total' < far')) {P P' : Nat} {bg en et bg' en' et' : Nat → Int} (h : CHN B t n R far total P bg en et) (h' : CHN B t n R' far' total' P' bg' en' et') : P = P' ∧ ∀ i, i < P → bg i = bg' i ∧ en i = en' i ∧ et i = et' i := by
  have via2 : ∀ (a : Nat) (k : Int) (e b : Nat) (x : Int), viaG B t n a R far k e b x ↔ viaG B t n a R' far' k e b x := fun a k e b x => viaG_congr hW (fun b k _ g2 g3 => hR b k g2 g3)
  have key : ∀ i, i < P → i < P' ∧ bg i = bg' i ∧ en i = en' i ∧ et i = et' i := by
    intro i
    induction i with
    | zero =>
      intro hi
      obtain ⟨a, b, e, K, w, g1, g2, g3, g4, _, g6⟩ := h.2.1 0 hi
      obtain ⟨ea, eK, ew⟩ := g4 rfl
      rw [ea, eK, ew] at g6
      have f := FMG_in g6
      have hP' : 0 < P' := by
        rcases Nat.eq_zero_or_pos P' with hz | hz
        · have := (h.2.2.1 hi).2
          rcases h'.2.2.2 hz with z | z
          · omega
          · omega
        · exact hz
      obtain ⟨a', b', e', K', w', g1', g2', g3', g4', _, g6'⟩ := h'.2.1 0 hP'
      obtain ⟨ea', eK', ew'⟩ := g4' rfl
      rw [ea', eK', ew'] at g6'
      have hw : total = total' := by
        have := (h.2.2.1 hi).2
        omega
      rw [hw] at g6
      obtain ⟨he, hb⟩ := FMG_one (fun e b x => via2 0 _ e b x) g6 g6'
      exact ⟨hP', by rw [g1, g1', ea, ea'], by rw [g2, g2', hb], by rw [g3, g3', he]⟩
    | succ j ih =>
      intro hi
      obtain ⟨hj, _, i2, i3⟩ := ih (by omega)
      obtain ⟨a, b, e, K, w, g1, g2, g3, _, g5, g6⟩ := h.2.1 (j + 1) hi
      obtain ⟨q1, q2, q3⟩ := g5 j rfl
      have f := FMG_in g6
      have hP' : j + 1 < P' := by
        by_cases hz : j + 1 < P'
        · exact hz
        · have hpz : P' - 1 = j := by omega
          have := (h'.2.2.1 (by omega)).1
          rw [hpz] at this
          omega
      obtain ⟨a', b', e', K', w', g1', g2', g3', _, g5', g6'⟩ := h'.2.1 (j + 1) hP'
      obtain ⟨q1', q2', q3'⟩ := g5' j rfl
      have haa : a = a' := by omega
      have hKK : K = K' := by
        rw [i3] at q2
        omega
      subst haa
      subst hKK
      obtain ⟨a0, b0, e0, K0, w0, p1, p2, p3, _, _, p6⟩ := h.2.1 j (by omega)
      have f0 := FMG_in p6
      have hKb := kd_bd hW f0.2.2.1
      have hKe : kd (B 6) e0 = K := by
        rw [← p3]
        exact q2
      have hlt : R a K < far := by
        have := f0.2.2.2.2.1
        rw [hKe, Int.toNat_natCast, show b0 = a by omega] at this
        exact this
      have hww : w = w' := by
        rcases hR a K (by omega) (by omega) with ⟨z, _⟩ | ⟨z, _⟩
        · omega
        · omega
      subst hww
      obtain ⟨rfl, rfl⟩ := FMG_one (fun e b x => via2 a _ e b x) g6 g6'
      exact ⟨hP', by rw [g1, g1'], by rw [g2, g2'], by rw [g3, g3']⟩
  have hPP : P = P' := by
    rcases Nat.lt_trichotomy P P' with hlt | heq | hgt
    · exfalso
      rcases Nat.eq_zero_or_pos P with hz | hz
      · have h1 := h.2.2.2 hz
        have h2 := (h'.2.2.1 (by omega)).2
        obtain ⟨a, b, e, K, w, _, _, _, _, _, g6⟩ := h'.2.1 0 (by omega)
        have f := FMG_in g6
        rcases h1 with z | z
        · omega
        · omega
      · have h1 := (h.2.2.1 hz).1
        obtain ⟨_, _, i2, _⟩ := key (P - 1) (by omega)
        obtain ⟨a, b, e, K, w, g1, _, _, _, g5, g6⟩ := h'.2.1 P hlt
        have f := FMG_in g6
        have := (g5 (P - 1) (by omega)).1
        omega
    · exact heq
    · exfalso
      have := (key P' hgt).1
      omega
  exact ⟨hPP, fun i hi => (key i hi).2⟩
set_option maxHeartbeats 4000000 in
theorem q_follow {B : Nat → Nat → Int} {t : Nat → Int} (hB : GB B) (hW : GW B) (hS : GS B) {n : Nat} (hn : n ≤ 36) (h0 : 0 < n) (hX : FXC B n) {fv vals : Nat → Int} (hF : FV B t n fv) (hV : ∀ b, 1 ≤ b → b ≤ n → COL B t (B 18 0).toNat b vals) {rests sc begins ends entries costs : Nat → Int} (hsc : SCo B sc) (hR : BRc B t n 0 rests) {total : Int} (htL : Lst (fun x => ∃ e b, viaG B t n 0 (Rc rests) 268435456 9 e b x) 268435456 total) (htl : total < 268435456) (htb : -1000000 < total ∧ total < 1000000) {sl : Int} (es : sl = n) :
    wp (m_X3_follow (B 6) sc fv rests total 0 begins ends entries costs sl (B 17) (B 19) vals) (fun u => ∃ P : Nat, u.1 = P ∧ CHN B t n (Rc rests) 268435456 total P u.2.1 u.2.2.1 u.2.2.2.1 ∧ ∀ i, i < P → ∃ a b e : Nat, u.2.1 i = a ∧ u.2.2.1 i = b ∧ u.2.2.2.1 i = e ∧ PC B t n a b e (u.2.2.2.2 i)) := by
  unfold m_X3_follow
  have hRB : ∀ a, RBc n a rests := fun a => ⟨fun b k h1 h2 h3 => hR.2.1.1 b k (by omega) h2 h3, hR.2.1.2⟩
  refine wp_bind (P := fun u : Nat × Int × Int × Int × (Nat → Int) × (Nat → Int) × (Nat → Int) × (Nat → Int) => ∃ P : Nat, u.2.2.2.1 = P ∧ CHN B t n (Rc rests) 268435456 total P u.2.2.2.2.1 u.2.2.2.2.2.1 u.2.2.2.2.2.2.1 ∧ ∀ i, i < P → ∃ a b e : Nat, u.2.2.2.2.1 i = a ∧ u.2.2.2.2.2.1 i = b ∧ u.2.2.2.2.2.2.1 i = e ∧ PC B t n a b e (u.2.2.2.2.2.2.2 i)) (wp_loop (fun i y => ∃ a K : Nat, y.1 = a ∧ a ≤ n ∧ i ≤ a ∧ y.2.2.1 = (i : Int) ∧ (a = 0 ∨ B 17 a ≠ 2 ∨ a = n) ∧ KA B i y.2.2.2.2.2.1 K ∧ (i = 0 → a = 0 ∧ y.2.1 = total) ∧ (∀ j, i = j + 1 → y.2.2.2.2.1 j = a ∧ y.2.1 = rests (9 * a + K) ∧ rests (9 * a + K) < 268435456) ∧ (∀ i', i' < i → LK B t n (Rc rests) 268435456 total y.2.2.2.1 y.2.2.2.2.1 y.2.2.2.2.2.1 i') ∧ ∀ i', i' < i → ∃ a b e : Nat, y.2.2.2.1 i' = a ∧ y.2.2.2.2.1 i' = b ∧ y.2.2.2.2.2.1 i' = e ∧ PC B t n a b e (y.2.2.2.2.2.2 i')) n (by omega) ⟨0, 9, rfl, by omega, by omega, rfl, Or.inl rfl, Or.inl ⟨rfl, rfl⟩, fun _ => ⟨rfl, rfl⟩, fun j h => absurd h (by omega), fun i' h => absurd h (by omega), fun i' h => absurd h (by omega)⟩ ?_) ?_
  · intro i y hi hs
    obtain ⟨a, K, a1, a2, a3, a4, a5, a6, a7, a8, a9, a10⟩ := hs
    unfold m_X3_follow_7
    refine wp_gd (by omega) (wp_gd (by omega) (wp_if (fun c1 => ?_) (fun c1 => ?_)))
    · refine wp_end (by decide) ⟨i, a4, ⟨by omega, a9, fun hz => ?_, fun hz => ?_⟩, a10⟩
      · obtain ⟨j, rfl⟩ : ∃ j, i = j + 1 := ⟨i - 1, by omega⟩
        refine ⟨?_, htl⟩
        show y.2.2.2.2.1 (j + 1 - 1) = n
        rw [show j + 1 - 1 = j by omega, (a8 j rfl).1]
        omega
      · have := (a7 hz).1
        omega
    · refine wp_gd (by omega) (wp_if (fun c2 => absurd c2 (by omega)) (fun c2 => ?_))
      have hpa : a = 0 ∨ B 17 a ≠ 2 := by
        rcases a5 with z | z | z
        · exact Or.inl z
        · exact Or.inr z
        · omega
      have hw : Lst (fun x => ∃ e b, viaG B t n a (Rc rests) 268435456 K e b x) 268435456 y.2.1 ∧ y.2.1 < 268435456 ∧ -1000000 < y.2.1 ∧ y.2.1 < 1000000 := by
        rcases a6 with ⟨z1, z2⟩ | ⟨z1, z2, z3, z4⟩
        · obtain ⟨z3, z4⟩ := a7 z1
          rw [z3, z2, z4]
          exact ⟨htL, htl, htb.1, htb.2⟩
        · obtain ⟨j, rfl⟩ : ∃ j, i = j + 1 := ⟨i - 1, by omega⟩
          obtain ⟨_, w1, w2⟩ := a8 j rfl
          have h5 := hR.2.1.1 a K (by omega) a2 z4
          rw [w1]
          exact ⟨hR.2.2 a (Nat.zero_le _) (by omega) K z4, w2, by omega, by omega⟩
      refine wp_bind (q_followPart hB hW hS hn hX hF hV (a := a) (by omega) hpa hsc (hRB _) (len := i) (by omega) a6 (by omega) hw.2.1 hw.1 a1 es a4 hw.2.2.2) ?_
      rintro u ⟨e, b, c, f1, f2, rfl⟩
      have fin := FMG_in f1
      have hkb := kd_bd hW fin.2.2.1
      have ek : (((kd (B 6) e).toNat : Nat) : Int) = kd (B 6) e := by omega
      show wp (gd (inI (b : Int)) _) _
      refine wp_gd (by omega) (wp_if (fun z => absurd z (by omega)) (fun _ => ?_))
      rw [show ((((i + 1 : Nat) : Int) - 1)).toNat = i by omega, uz_at]
      refine wp_gd (by omega) (wp_eq (q_kindOf (by omega)) (wp_gd (by omega) (wp_vl (wp_go ⟨by omega, ?_⟩))))
      have hne : ∀ i', i' < i → i' ≠ i := fun i' h => by omega
      refine ⟨b, (kd (B 6) e).toNat, rfl, fin.2.1, by omega, rfl, ?_, ?_, fun z => absurd z (by omega), ?_, ?_, ?_⟩
      · rcases fin.2.2.2.2.2.2.1 with z | z
        · exact Or.inr (Or.inr z)
        · exact Or.inr (Or.inl z)
      · refine Or.inr ⟨by omega, ?_, ?_, by omega⟩
        · show 0 ≤ uz y.2.2.2.2.2.1 i e (i + 1 - 1) ∧ uz y.2.2.2.2.2.1 i e (i + 1 - 1) ≤ 540
          rw [show i + 1 - 1 = i by omega, uz_at]
          omega
        · show kd (B 6) (uz y.2.2.2.2.2.1 i e (i + 1 - 1)) = _
          rw [show i + 1 - 1 = i by omega, uz_at]
          exact ek.symm
      · intro j hj
        have hji : j = i := by omega
        subst hji
        refine ⟨?_, ?_, fin.2.2.2.2.1⟩
        · show uz y.2.2.2.2.1 j b j = b
          rw [uz_at]
        · show rests ((b : Int) * 9 + kd (B 6) e).toNat = _
          congr 1
          omega
      · intro i' hi'
        show LK B t n (Rc rests) 268435456 total (uz y.2.2.2.1 i a) (uz y.2.2.2.2.1 i b) (uz y.2.2.2.2.2.1 i e) i'
        by_cases hii : i' = i
        · subst hii
          refine ⟨a, b, e, K, y.2.1, uz_at _ _ _, uz_at _ _ _, uz_at _ _ _, fun z => ?_, fun j hj => ?_, f1⟩
          · obtain ⟨z1, z2⟩ := a7 z
            rcases a6 with ⟨_, z3⟩ | ⟨z3, _⟩
            · exact ⟨z1, z3, z2⟩
            · omega
          · subst hj
            obtain ⟨w1, w2, _⟩ := a8 j rfl
            rw [uz_ne _ _ (by omega), uz_ne _ _ (by omega)]
            refine ⟨w1, ?_, w2⟩
            rcases a6 with ⟨z, _⟩ | ⟨_, _, z, _⟩
            · omega
            · exact z
        · obtain ⟨a', b', e', K', w', g1, g2, g3, g4, g5, g6⟩ := a9 i' (by omega)
          refine ⟨a', b', e', K', w', by rw [uz_ne _ _ hii]; exact g1, by rw [uz_ne _ _ hii]; exact g2, by rw [uz_ne _ _ hii]; exact g3, g4, fun j hj => ?_, g6⟩
          rw [uz_ne _ _ (by omega), uz_ne _ _ (by omega)]
          exact g5 j hj
      · intro i' hi'
        show ∃ a' b' e' : Nat, uz y.2.2.2.1 i a i' = a' ∧ uz y.2.2.2.2.1 i b i' = b' ∧ uz y.2.2.2.2.2.1 i e i' = e' ∧ PC B t n a' b' e' (uz y.2.2.2.2.2.2 i c i')
        by_cases hii : i' = i
        · subst hii
          exact ⟨a, b, e, uz_at _ _ _, uz_at _ _ _, uz_at _ _ _, by rw [uz_at]; exact f2⟩
        · rw [uz_ne _ _ hii, uz_ne _ _ hii, uz_ne _ _ hii, uz_ne _ _ hii]
          exact a10 i' (by omega)
  · rintro ⟨t7, y1, y2, ln, bg, en, et, co⟩ hu
    show wp (if t7 = 1 then some (ln, bg, en, et, co) else some (ln, bg, en, et, co)) _
    exact wp_if (fun _ => wp_some hu) (fun _ => wp_some hu)
