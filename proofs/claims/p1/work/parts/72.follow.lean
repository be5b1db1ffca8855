/-! the class's reading followed -/
def FMG (B : Nat → Nat → Int) (t : Nat → Int) (n a : Nat) (R : Nat → Nat → Int) (far : Int) (k wanted : Int) (e b : Nat) : Prop := viaG B t n a R far k e b wanted ∧ ∀ e' b', bfr e b e' b' → ¬ viaG B t n a R far k e' b' wanted
theorem q_leastHead {B : Nat → Nat → Int} {t : Nat → Int} (hB : GB B) (hW : GW B) {n : Nat} (hn : n ≤ 36) (h0 : 0 < n) {heads rests : Nat → Int} (hR : RBc n 1 rests) (hH : ∀ i, inI (heads i)) (hL : ∀ k, k ≤ 8 → Lst (HS B t n 0 rests k) 268435456 (heads (9 * 0 + k))) : wp (m_X3_leastHead heads) (fun v => Lst (fun x => ∃ e b, viaG B t n 0 (Rc rests) 268435456 9 e b x) 268435456 v) := by
  have hst : ∀ j : Int, stp B 9 j = 0 := by
    intro j
    unfold stp
    rw [if_pos rfl]
  have hhd : ∀ k, k ≤ 8 → heads k ≤ 268435456 := by
    intro k hk
    have h1 := hL k hk
    rw [show 9 * 0 + k = k by omega] at h1
    rcases h1 with ⟨z, _⟩ | ⟨z, _⟩ <;> omega
  unfold m_X3_leastHead
  refine wp_bind (P := fun u : Nat × Int × Int => Lst (fun x => ∃ e b, viaG B t n 0 (Rc rests) 268435456 9 e b x) 268435456 u.2.1) (wp_loop (fun j y => y.2 = (j : Int) ∧ Lst (fun x => ∃ (j' : Nat), j' < j ∧ HS B t n 0 rests j' x) 268435456 y.1 ∧ inI y.1) 9 (by omega) ⟨rfl, Lst.none (fun x ⟨j', h, _⟩ => absurd h (by omega)), by decide⟩ ?_) ?_
  · intro j y hj hs
    obtain ⟨a1, a2, a3⟩ := hs
    unfold m_X3_leastHead_5
    refine wp_gd (by omega) (wp_if (fun c1 => ?_) (fun c1 => ?_))
    · refine wp_end (by decide) (a2.iff (fun x => ?_))
      rw [HS_via hW]
      constructor
      · rintro ⟨j', z, h1, h2, h3⟩
        rw [hst] at h3
        have : x = z := by omega
        rw [this]
        exact ⟨j', by omega, h2⟩
      · rintro ⟨j', h1, h2⟩
        exact ⟨j', x, by omega, h2, by rw [hst]; omega⟩
    · rw [show y.2.toNat = j by omega]
      have hh := hH j
      refine wp_gd (by omega) (wp_gd a3 (wp_gd hh (wp_vl (wp_vl (wp_go ⟨by omega, by show y.2 + 1 = _; omega, ?_, ?_⟩)))))
      · have h1 := hL j (by omega)
        rw [show 9 * 0 + j = j by omega] at h1
        refine a2.union h1 (fun x => ?_)
        constructor
        · rintro ⟨j', h2, h3⟩
          by_cases hjj : j' = j
          · subst hjj
            exact Or.inr h3
          · exact Or.inl ⟨j', by omega, h3⟩
        · rintro (⟨j', h2, h3⟩ | h3)
          · exact ⟨j', by omega, h3⟩
          · exact ⟨j, by omega, h3⟩
      · show inI (min y.1 (heads j))
        omega
  · rintro ⟨t5, y1, y2⟩ hu
    exact wp_some hu
/-- the kind ahead of the next part -/
def KA (B : Nat → Nat → Int) (len : Nat) (entries : Nat → Int) (K : Nat) : Prop := (len = 0 ∧ K = 9) ∨ (0 < len ∧ (0 ≤ entries (len - 1) ∧ entries (len - 1) ≤ 540) ∧ kd (B 6) (entries (len - 1)) = K ∧ K ≤ 8)
theorem q_costFrom {B : Nat → Nat → Int} {len K : Nat} {sc rests entries : Nat → Int} (hsc : SCo B sc) (hlen : len < 36) (hK : KA B len entries K) {v : Int} (hv : inI v) {b k : Nat} (hb : b ≤ 36) (hk : k ≤ 8) {x2 x3 ln : Int} (e2 : x2 = b) (e3 : x3 = k) (el : ln = len) : m_X3_costFrom v x2 x3 (B 6) sc rests ln entries = some (stp B K k + v / 1024 + rests (9 * b + k)) := by
  refine wp_out ?_
  unfold m_X3_costFrom
  have er : (x2 * 9 + x3).toNat = 9 * b + k := by omega
  rcases hK with ⟨h1, h2⟩ | ⟨h1, h2, h3, h4⟩
  · refine wp_gd (by omega) (wp_if (fun _ => ?_) (fun z => absurd (by omega) z))
    unfold m_X3_costFrom_42
    rw [er]
    refine wp_gd hv (wp_gd (by omega) (wp_some ?_))
    unfold stp
    rw [if_pos (by omega)]
  · refine wp_gd (by omega) (wp_if (fun z => absurd z (by omega)) (fun _ => ?_))
    rw [show (ln - 1).toNat = len - 1 by omega]
    refine wp_gd (by omega) (wp_eq (q_kindOf h2) ?_)
    rw [h3, e3, show ((K : Int) * 9 + (k : Int)).toNat = 9 * K + k by omega, hsc K k h4 hk]
    unfold m_X3_costFrom_42
    rw [← e3, er]
    exact wp_gd (by omega) (wp_gd hv (wp_gd (by omega) (wp_some rfl)))
def seen (cb ck b k : Nat) : Prop := b < cb ∨ (b = cb ∧ k < ck)
def Cm (B : Nat → Nat → Int) (t : Nat → Int) (n a : Nat) (rests : Nat → Int) (K : Nat) (wanted : Int) (b k : Nat) (v : Int) : Prop := Lst (VV B t a b k) 2147483647 v ∧ v ≠ 2147483647 ∧ LT B n a b ∧ stp B K k + v / 1024 + rests (9 * b + k) = wanted
def Fi (B : Nat → Nat → Int) (t : Nat → Int) (n a : Nat) (rests : Nat → Int) (K : Nat) (wanted : Int) (cb ck : Nat) (fe fv : Int) : Prop :=
  (fe = -1 ∧ fv = 2147483647 ∧ ∀ b k v, seen cb ck b k → a < b → b ≤ n → k ≤ 8 → ¬ Cm B t n a rests K wanted b k v) ∨
  (∃ b0 k0 : Nat, fe = b0 ∧ seen cb ck b0 k0 ∧ (a < b0 ∧ b0 ≤ n ∧ k0 ≤ 8) ∧ Cm B t n a rests K wanted b0 k0 fv ∧ ∀ b k v, seen cb ck b k → a < b → b ≤ n → k ≤ 8 → Cm B t n a rests K wanted b k v → fv % 1024 < v % 1024 ∨ (fv % 1024 = v % 1024 ∧ b0 ≤ b))
theorem Fi.same {B : Nat → Nat → Int} {t : Nat → Int} {n a : Nat} {rests : Nat → Int} {K : Nat} {wanted : Int} {cb ck cb' ck' : Nat} {fe fv : Int} (h : Fi B t n a rests K wanted cb ck fe fv) (h1 : ∀ b k, seen cb ck b k → k ≤ 8 → seen cb' ck' b k) (h2 : ∀ b k v, seen cb' ck' b k → a < b → b ≤ n → k ≤ 8 → Cm B t n a rests K wanted b k v → seen cb ck b k) : Fi B t n a rests K wanted cb' ck' fe fv := by
  rcases h with ⟨a1, a2, a3⟩ | ⟨b0, k0, a1, a2, a3, a4, a5⟩
  · exact Or.inl ⟨a1, a2, fun b k v g1 g2 g3 g4 g5 => a3 b k v (h2 b k v g1 g2 g3 g4 g5) g2 g3 g4 g5⟩
  · exact Or.inr ⟨b0, k0, a1, h1 b0 k0 a2 a3.2.2, a3, a4, fun b k v g1 g2 g3 g4 g5 => a5 b k v (h2 b k v g1 g2 g3 g4 g5) g2 g3 g4 g5⟩
theorem Cm_one {B : Nat → Nat → Int} {t : Nat → Int} {n a : Nat} {rests : Nat → Int} {K : Nat} {wanted : Int} {b k : Nat} {v v' : Int} (h : Cm B t n a rests K wanted b k v) (h' : Lst (VV B t a b k) 2147483647 v') : v = v' := by
  rcases h.1.two h' with ⟨z1, z2⟩ | ⟨z, _⟩
  · omega
  · exact z
set_option maxHeartbeats 4000000 in
theorem q_followPart {B : Nat → Nat → Int} {t : Nat → Int} (hB : GB B) (hW : GW B) (hS : GS B) {n : Nat} (hn : n ≤ 36) (hX : FXC B n) {fv vals : Nat → Int} (hF : FV B t n fv) (hV : ∀ b, 1 ≤ b → b ≤ n → COL B t (B 18 0).toNat b vals) {a : Nat} (ha : a < n) (hpa : a = 0 ∨ B 17 a ≠ 2) {rests sc begins ends entries costs : Nat → Int} (hsc : SCo B sc) (hR : RBc n (a + 1) rests) {len K : Nat} (hlen : len < 36) (hK : KA B len entries K) {wanted : Int} (hw : inI wanted) (hwl : wanted < 268435456) (hwL : Lst (fun x => ∃ e b, viaG B t n a (Rc rests) 268435456 K e b x) 268435456 wanted) {x1 sl ln : Int} (e1 : x1 = a) (es : sl = n) (el : ln = len) (hwb : wanted < 1000000) :
    wp (m_X3_followPart x1 wanted (B 6) sc fv rests ln begins ends entries costs sl (B 17) (B 19) vals) (fun u => ∃ (e b : Nat) (c : Int), FMG B t n a (Rc rests) 268435456 K wanted e b ∧ PC B t n a b e c ∧ u = ((b : Int), ((len + 1 : Nat) : Int), uz begins len a, uz ends len b, uz entries len e, uz costs len c)) := by
  have hKb : 0 ≤ (K : Int) ∧ (K : Int) ≤ 9 := by
    rcases hK with ⟨_, h⟩ | ⟨_, _, _, h⟩ <;> omega
  -- each part with which the rest costs what is wanted stands behind the least value of its stretch and kind
  have match_of : ∀ (e b : Nat), viaG B t n a (Rc rests) 268435456 K e b wanted → ∀ v, Lst (VV B t a b (kd (B 6) e).toNat) 2147483647 v → Cm B t n a rests K wanted b (kd (B 6) e).toNat v ∧ v % 1024 ≤ e := by
    rintro e b ⟨c, h1, h2, h3⟩ v hv
    have hkb := kd_bd hW h1.2.1
    have ek : (((kd (B 6) e).toNat : Nat) : Int) = kd (B 6) e := by omega
    have hne : v ≠ 2147483647 := by
      intro z
      rw [z] at hv
      exact VV_none hv h1 ek.symm
    obtain ⟨e0, p1, p2, p3, p4⟩ := VV_least (n := n) h1.1.1 h1.1.2 (PC_LT h1) hv hne
    have h4 := p4 e c h1 ek.symm
    have h5 : wanted ≤ v / 1024 + Rc rests b (kd (B 6) e).toNat + stp B K (kd (B 6) e) := by
      refine (hwL.le ⟨e0, b, v / 1024, p1, ?_, ?_⟩).1
      · show Rc rests b (kd (B 6) e0).toNat < 268435456
        rw [p3, Int.toNat_natCast]
        exact h2
      · show _ = v / 1024 + Rc rests b (kd (B 6) e0).toNat + stp B K (kd (B 6) e0)
        rw [p3, Int.toNat_natCast, ek]
    have h6 : v / 1024 = c := by omega
    refine ⟨⟨hv, hne, PC_LT h1, ?_⟩, h4.2 h6⟩
    rw [ek, h6, h3]
    show stp B K (kd (B 6) e) + c + rests (9 * b + (kd (B 6) e).toNat) = c + rests (9 * b + (kd (B 6) e).toNat) + stp B K (kd (B 6) e)
    omega
  have VVex : ∀ (b k : Nat), a < b → b ≤ n → k ≤ 8 → ∃ v, Lst (VV B t a b k) 2147483647 v := by
    intro b k h1 h2 h3
    obtain ⟨v, _, hv⟩ := q_valueOf hB hW hn hX hF hV h1 h2 h3 rfl rfl rfl
    exact ⟨v, hv⟩
  unfold m_X3_followPart
  refine wp_bind (q_reachFrom hB hn ha e1 es) ?_
  rintro r ⟨R, rfl, r1, r2, r3, r4⟩
  have hreach : ∀ b, a < b → b ≤ n → LT B n a b → b ≤ R := by
    intro b hab hbn hl
    by_cases h : b ≤ R
    · exact h
    · exfalso
      rcases r4 with r4 | r4
      · omega
      · exact hl.2.2 R r1 (by omega) r4
  refine wp_vl (wp_bind (P := fun u : Nat × Int × Int × Int => Fi B t n a rests K wanted (R + 1) 0 u.2.1 u.2.2.1) (wp_loop (fun j y => y.2.2 = ((a + 1 + j : Nat) : Int) ∧ Fi B t n a rests K wanted (a + 1 + j) 0 y.1 y.2.1) (R - a) (by omega) ⟨by show x1 + 1 = _; omega, Or.inl ⟨rfl, rfl, fun b k v g1 g2 _ _ _ => ?_⟩⟩ ?_) ?_)
  · unfold seen at g1
    omega
  · intro j y hj hs
    obtain ⟨a1, a2⟩ := hs
    unfold m_X3_followPart_21
    refine wp_gd (by omega) (wp_gd (by omega) (wp_if (fun c2 => ?_) (fun c2 => ?_)))
    · refine wp_end (by decide) ?_
      show Fi B t n a rests K wanted (R + 1) 0 y.1 y.2.1
      rw [show R + 1 = a + 1 + j by omega]
      exact a2
    · obtain ⟨b, eb⟩ : ∃ b, b = a + 1 + j := ⟨_, rfl⟩
      rw [← eb] at a1 a2
      have hbR : b ≤ R := by omega
      refine wp_bind (P := fun u : Nat × Int × Int × Int => Fi B t n a rests K wanted (b + 1) 0 u.2.1 u.2.2.1) (wp_loop (fun k d => d.2.2 = (k : Int) ∧ Fi B t n a rests K wanted b k d.1 d.2.1) 9 (by omega) ⟨rfl, a2⟩ ?_) ?_
      · intro k d hk hsd
        obtain ⟨d1, d2⟩ := hsd
        unfold m_X3_followPart_31
        refine wp_gd (by omega) (wp_if (fun c3 => ?_) (fun c3 => ?_))
        · refine wp_end (by decide) (d2.same (fun b' k' g1 g2 => ?_) (fun b' k' v g1 g2 g3 g4 g5 => ?_))
          · unfold seen at g1 ⊢
            omega
          · unfold seen at g1 ⊢
            omega
        · refine wp_bind (q_partsAt hB hn (p := b) (by omega) a1 es) ?_
          intro r5 hr5
          refine wp_gd (by omega) (wp_if (fun c4 => ?_) (fun c4 => ?_))
          · have hno : ¬ (b = 0 ∨ b = n ∨ B 17 b ≠ 2) := by
              rcases hr5 with ⟨z, _⟩ | ⟨_, z⟩
              · omega
              · exact z
            refine wp_end (by decide) (d2.same (fun b' k' g1 g2 => ?_) (fun b' k' v g1 g2 g3 g4 g5 => ?_))
            · unfold seen at g1 ⊢
              omega
            · have hb : b' ≠ b := by
                intro z
                subst z
                rcases g5.2.2.1.2.1 with h | h
                · exact hno (Or.inr (Or.inl h))
                · exact hno (Or.inr (Or.inr h))
              unfold seen at g1 ⊢
              omega
          · have hlt : LT B n a b := by
              refine ⟨hpa, ?_, fun p h1 h2 => r3 p h1 (by omega)⟩
              rcases hr5 with ⟨_, z⟩ | ⟨z, _⟩
              · rcases z with z | z | z
                · omega
                · exact Or.inl z
                · exact Or.inr z
              · omega
            have hkeep : (∀ v, ¬ Cm B t n a rests K wanted b k v) → Fi B t n a rests K wanted b (k + 1) d.1 d.2.1 := by
              intro hno
              refine d2.same (fun b' k' g1 g2 => ?_) (fun b' k' v g1 g2 g3 g4 g5 => ?_)
              · unfold seen at g1 ⊢
                omega
              · by_cases hz : b' = b ∧ k' = k
                · obtain ⟨rfl, rfl⟩ := hz
                  exact absurd g5 (hno v)
                · unfold seen at g1 ⊢
                  omega
            refine wp_bind (q_valueOf hB hW hn hX hF hV (a := a) (b := b) (k := k) (by omega) (by omega) (by omega) e1 a1 d1) ?_
            intro v hv
            have hvb : v = 2147483647 ∨ (-400000 ≤ v ∧ v ≤ 4000000) := by
              by_cases h : v = 2147483647
              · exact Or.inl h
              · exact Or.inr (VV_bd hB hW (hv.mem h))
            have hrb := hR.1 b k (by omega) (by omega) (by omega)
            have hst := stp_bd hS (k := (K : Int)) (j := (k : Int)) hKb (by omega)
            -- the last step, with the candidate taken as one to be looked at or not
            have h86 : ∀ t0 : Int, ((t0 = 1 ∧ (d.1 = -1 ∨ v % 1024 < d.2.1 % 1024)) ∨ (t0 = 0 ∧ d.1 ≠ -1 ∧ d.2.1 % 1024 ≤ v % 1024)) → wp (m_X3_followPart_86 x1 wanted d.1 d.2.1 (R : Int) y.2.2 d.2.2 v t0 (B 6) sc fv rests ln begins ends entries costs sl (B 17) (B 19) vals) (fun u : Nat × Int × Int × Int => (u.1 = 0 → k < 9 ∧ u.2.2.2 = ((k + 1 : Nat) : Int) ∧ Fi B t n a rests K wanted b (k + 1) u.2.1 u.2.2.1) ∧ (u.1 ≠ 0 → Fi B t n a rests K wanted (b + 1) 0 u.2.1 u.2.2.1)) := by
              intro t0 ht0
              unfold m_X3_followPart_86
              refine wp_gd (by omega) (wp_if (fun c5 => ?_) (fun c5 => ?_))
              · refine wp_vl (wp_some ⟨fun _ => ⟨by omega, by show d.2.2 + 1 = _; omega, hkeep (fun v' hc => ?_)⟩, fun z => absurd rfl z⟩)
                have := Cm_one hc hv
                exact hc.2.1 (by omega)
              · refine wp_gd (by omega) (wp_if (fun c6 => ?_) (fun c6 => ?_))
                · refine wp_vl (wp_some ⟨fun _ => ⟨by omega, by show d.2.2 + 1 = _; omega, ?_⟩, fun z => absurd rfl z⟩)
                  have hd2 : d.1 ≠ -1 ∧ d.2.1 % 1024 ≤ v % 1024 := by
                    rcases ht0 with ⟨z, _⟩ | ⟨_, z⟩
                    · omega
                    · exact z
                  rcases d2 with ⟨z, _⟩ | ⟨b0, k0, g1, g2, g3, g4, g5⟩
                  · exact absurd z hd2.1
                  · refine Or.inr ⟨b0, k0, g1, ?_, g3, g4, fun b' k' v' f1 f2 f3 f4 f5 => ?_⟩
                    · unfold seen at g2 ⊢
                      omega
                    · show d.2.1 % 1024 < v' % 1024 ∨ (d.2.1 % 1024 = v' % 1024 ∧ b0 ≤ b')
                      by_cases hz : b' = b ∧ k' = k
                      · obtain ⟨rfl, rfl⟩ := hz
                        have hvv := Cm_one f5 hv
                        have hb0 : b0 ≤ b' := by
                          unfold seen at g2
                          omega
                        rw [hvv]
                        omega
                      · refine g5 b' k' v' ?_ f2 f3 f4 f5
                        unfold seen at f1 ⊢
                        omega
                · have hd2 : d.1 = -1 ∨ v % 1024 < d.2.1 % 1024 := by
                    rcases ht0 with ⟨_, z⟩ | ⟨z, _⟩
                    · exact z
                    · omega
                  refine wp_eq (q_costFrom hsc hlen hK (by omega) (b := b) (k := k) (by omega) (by omega) a1 d1 el) ?_
                  refine wp_gd (by omega) (wp_gd hw (wp_if (fun c7 => ?_) (fun c7 => ?_)))
                  · have hcm : Cm B t n a rests K wanted b k v := ⟨hv, c5, hlt, c7⟩
                    refine wp_vl (wp_some ⟨fun _ => ⟨by omega, by show d.2.2 + 1 = _; omega, Or.inr ⟨b, k, a1, Or.inr ⟨rfl, by omega⟩, ⟨by omega, by omega, by omega⟩, hcm, fun b' k' v' f1 f2 f3 f4 f5 => ?_⟩⟩, fun z => absurd rfl z⟩)
                    show v % 1024 < v' % 1024 ∨ (v % 1024 = v' % 1024 ∧ b ≤ b')
                    by_cases hz : b' = b ∧ k' = k
                    · obtain ⟨rfl, rfl⟩ := hz
                      have := Cm_one f5 hv
                      rw [this]
                      exact Or.inr ⟨rfl, Nat.le_refl _⟩
                    · have hsn : seen b k b' k' := by
                        unfold seen at f1 ⊢
                        omega
                      rcases d2 with ⟨z1, _, z3⟩ | ⟨b0, k0, g1, g2, g3, g4, g5⟩
                      · exact absurd f5 (z3 b' k' v' hsn f2 f3 f4)
                      · have h9 := g5 b' k' v' hsn f2 f3 f4 f5
                        rcases hd2 with h10 | h10
                        · omega
                        · omega
                  · refine wp_vl (wp_some ⟨fun _ => ⟨by omega, by show d.2.2 + 1 = _; omega, hkeep (fun v' hc => ?_)⟩, fun z => absurd rfl z⟩)
                    have := Cm_one hc hv
                    rw [this] at hc
                    exact c7 hc.2.2.2
            have hdI : inI d.1 ∧ inI (d.2.1 % 1024) := by
              rcases d2 with ⟨z1, z2, _⟩ | ⟨b0, k0, g1, g2, g3, g4, g5⟩ <;> omega
            refine wp_gd hdI.1 (wp_if (fun c5 => ?_) (fun c5 => ?_))
            · exact h86 1 (Or.inl ⟨rfl, Or.inl c5⟩)
            · refine wp_gd (by omega) (wp_gd hdI.2 (wp_if (fun c6 => ?_) (fun c6 => ?_)))
              · exact h86 0 (Or.inr ⟨rfl, c5, c6⟩)
              · exact h86 1 (Or.inl ⟨rfl, Or.inr (by omega)⟩)
      · rintro ⟨t31, y3, y4, y7⟩ hu
        refine wp_vl (wp_go ⟨by omega, by show y.2.2 + 1 = _; omega, ?_⟩)
        rw [show a + 1 + (j + 1) = b + 1 by omega]
        exact hu
  · rintro ⟨t21, fe, fx, y6⟩ hu
    have hu : Fi B t n a rests K wanted (R + 1) 0 fe fx := hu
    obtain ⟨e1', b1', hm⟩ := hwL.mem (by omega)
    have hkb1 := kd_bd hW hm.choose_spec.1.2.1
    have hb1 := hm.choose_spec.1.1
    obtain ⟨v1, hv1⟩ := VVex b1' (kd (B 6) e1').toNat hb1.1 hb1.2 (by omega)
    obtain ⟨hc1, _⟩ := match_of e1' b1' hm v1 hv1
    have hs1 : seen (R + 1) 0 b1' (kd (B 6) e1').toNat := by
      have := hreach b1' hb1.1 hb1.2 hc1.2.2.1
      unfold seen
      omega
    rcases hu with ⟨z1, z2, z3⟩ | ⟨b0, k0, g1, g2, g3, g4, g5⟩
    · exact absurd hc1 (z3 _ _ _ hs1 hb1.1 hb1.2 (by omega))
    · refine wp_gd (by omega) (wp_if (fun z => absurd z (by omega)) (fun _ => ?_))
      obtain ⟨e0, p1, p2, p3, p4⟩ := VV_least (n := n) g3.1 g3.2.1 g4.2.2.1 g4.1 g4.2.1
      have hvb := VV_bd hB hW (g4.1.mem g4.2.1)
      have hln : ln.toNat = len := by omega
      rw [hln]
      refine wp_gd (by omega) (wp_vl (wp_gd (by omega) (wp_vl (wp_gd (by omega) (wp_vl (wp_gd (by omega) (wp_gd (by omega) (wp_vl (wp_vl (wp_some ?_))))))))))
      have hrest : rests (9 * b0 + k0) < 268435456 := by
        have h1 := hR.1 b0 k0 (by omega) g3.2.1 g3.2.2
        have h2 := g4.2.2.2
        have hst := stp_bd hS (k := (K : Int)) (j := (k0 : Int)) hKb (by omega)
        omega
      refine ⟨e0, b0, fx / 1024, ⟨⟨fx / 1024, p1, ?_, ?_⟩, ?_⟩, p1, ?_⟩
      · show rests (9 * b0 + (kd (B 6) e0).toNat) < 268435456
        rw [p3, Int.toNat_natCast]
        exact hrest
      · show wanted = fx / 1024 + rests (9 * b0 + (kd (B 6) e0).toNat) + stp B K (kd (B 6) e0)
        rw [p3, Int.toNat_natCast, ← g4.2.2.2]
        omega
      · intro e' b' hbf hvia
        have hv' := hvia.choose_spec.1
        have hkb' := kd_bd hW hv'.2.1
        obtain ⟨v', hvv'⟩ := VVex b' (kd (B 6) e').toNat hv'.1.1 hv'.1.2 (by omega)
        obtain ⟨hc', hle⟩ := match_of e' b' hvia v' hvv'
        have hs' : seen (R + 1) 0 b' (kd (B 6) e').toNat := by
          have := hreach b' hv'.1.1 hv'.1.2 hc'.2.2.1
          unfold seen
          omega
        have := g5 b' _ v' hs' hv'.1.1 hv'.1.2 (by omega) hc'
        unfold bfr at hbf
        omega
      · rw [g1, e1, el, ← p2]
        rfl
