/-! the reference's table: walks forward -/
theorem spR_snoc {B : Nat → Nat → Int} {t : Nat → Int} (s : Nat) : ∀ (ss : List Nat) (a b : Nat) (x : Int), spR B t (ss ++ [s]) a b x ↔ ∃ (m j : Nat) (y : Int), spR B t ss a m y ∧ (j : Int) < B 0 s ∧ fit B t (3 * s + j) m ∧ m + (B 2 (3 * s + j)).toNat = b ∧ x = y + prc B t (3 * s + j) m := by
  intro ss
  induction ss with
  | nil =>
    intro a b x
    constructor
    · rintro ⟨j, y, h1, h2, ⟨h3, h4⟩, h5⟩
      exact ⟨a, j, 0, ⟨rfl, rfl⟩, h1, h2, h3, by omega⟩
    · rintro ⟨m, j, y, ⟨h1, h2⟩, h3, h4, h5, h6⟩
      subst h1
      exact ⟨j, 0, h3, h4, ⟨h5, rfl⟩, by omega⟩
  | cons c ss ih =>
    intro a b x
    constructor
    · rintro ⟨j, y, h1, h2, h3, h5⟩
      obtain ⟨m, j2, y2, g1, g2, g3, g4, g5⟩ := (ih _ _ _).mp h3
      exact ⟨m, j2, prc B t (3 * c + j) a + y2, ⟨j, y2, h1, h2, g1, rfl⟩, g2, g3, g4, by omega⟩
    · rintro ⟨m, j2, y, ⟨j, y2, h1, h2, g1, g6⟩, g2, g3, g4, g5⟩
      exact ⟨j, y2 + prc B t (3 * s + j2) m, h1, h2, (ih _ _ _).mpr ⟨m, j2, y2, g1, g2, g3, g4, rfl⟩, by omega⟩
def TO (B : Nat → Nat → Int) (t : Nat → Int) (n a : Nat) (ss : List Nat) (reach : Nat → Int) : Prop := ∀ k : Nat, k ≤ 36 → (a + k ≤ n → Lst (spR B t ss a (a + k)) 134217728 (reach k)) ∧ (n < a + k → reach k = 134217728)
def fph (B : Nat → Nat → Int) (t reach : Nat → Int) (n a s k m q : Nat) (x : Int) : Prop := ∃ (k' j : Nat), (k' < k ∨ (k' = k ∧ j < m)) ∧ (j : Int) < B 0 s ∧ k' + (B 2 (3 * s + j)).toNat = q ∧ fit B t (3 * s + j) (a + k') ∧ a + q ≤ n ∧ reach k' < 134217728 ∧ x = reach k' + prc B t (3 * s + j) (a + k')
def FI (B : Nat → Nat → Int) (t reach : Nat → Int) (n a s k m : Nat) (next : Nat → Int) : Prop := (∀ q : Nat, q ≤ 36 → Lst (fph B t reach n a s k m q) 134217728 (next q)) ∧ ∀ i, inI (next i)
theorem FI.same {B : Nat → Nat → Int} {t reach : Nat → Int} {n a s k m k' m' : Nat} {next : Nat → Int} (h : FI B t reach n a s k m next) (hS : ∀ q x, fph B t reach n a s k' m' q x ↔ fph B t reach n a s k m q x) : FI B t reach n a s k' m' next := ⟨fun q hq => (h.1 q hq).iff (hS q), h.2⟩
theorem q_others {t : Nat → Int} (ht : ∀ k, inI (t k)) {row : Int} {n p : Nat} {top : Int} (hr : isR 5 4 top row n) (hrL : inL row) (hp : p + n ≤ 36) {x1 x2 x3 x4 x7 : Int} (e1 : x1 + x3 = p) (e7 : x7 = n) (sM sP sp : Nat → Int) (sl nn : Int) (re ne : Nat → Int) :
    wp (zloop (fun a => m_X9_oneSound_105 x1 x2 x3 x4 row x7 a.1 a.2 sM sP sp sl nn t re ne) FU (0, 0)) (fun u => u.2.1 = (mis t row p n : Int)) := by
  have hn4 := hr.2.1
  refine wp_loop (fun j b => b.2 = (j : Int) ∧ b.1 = (mis t row p j : Int)) n (by omega) ⟨rfl, rfl⟩ ?_
  intro j b hj hs
  obtain ⟨a1, a2⟩ := hs
  unfold m_X9_oneSound_105
  refine wp_gd (by omega) (wp_gd (by omega) (wp_if (fun c1 => ?_) (fun c1 => ?_)))
  · refine wp_end (by decide) ?_
    show b.1 = _
    rw [a2, show j = n by omega]
  · have e6 : (x1 + x3 + b.2).toNat = p + j := by omega
    have h5 := pz_nonneg 5 row j
    have h6 := pz_lt 5 row j
    have h7 : (2 : Int) ^ 5 = 32 := by decide
    refine wp_gd (by omega) (wp_eq (q_piece 5 j (Or.inl rfl) rfl a1 hrL (by omega)) ?_)
    rw [e6]
    refine wp_gd (ht _) (wp_gd (by omega) (wp_if (fun c2 => ?_) (fun c2 => ?_)))
    · refine wp_vl (wp_vl (wp_go ⟨by omega, by show b.2 + 1 = _; omega, ?_⟩))
      show b.1 + 0 = ((mis t row p j + (if pz 5 row j = t (p + j) then 0 else 1) : Nat) : Int)
      rw [if_pos c2.symm]
      omega
    · refine wp_vl (wp_vl (wp_go ⟨by omega, by show b.2 + 1 = _; omega, ?_⟩))
      show b.1 + 1 = ((mis t row p j + (if pz 5 row j = t (p + j) then 0 else 1) : Nat) : Int)
      rw [if_neg (fun z => c2 z.symm)]
      omega
theorem mis_le (t : Nat → Int) (row : Int) (p : Nat) : ∀ k, mis t row p k ≤ k := by
  intro k
  induction k with
  | zero => exact Nat.le_refl _
  | succ k ih =>
    show mis t row p k + (if pz 5 row k = t (p + k) then 0 else 1) ≤ k + 1
    by_cases h : pz 5 row k = t (p + k)
    · rw [if_pos h]
      omega
    · rw [if_neg h]
      omega
set_option maxHeartbeats 2000000 in
theorem q_oneIn {B : Nat → Nat → Int} {t reach next : Nat → Int} (hB : GB B) (ht : ∀ k, inI (t k)) {n a s k m : Nat} (hn : n ≤ 36) (hs50 : s < 50) (hk : a + k ≤ n) (hre : 0 ≤ reach k ∧ reach k < 10000) {x1 x2 x3 x4 nn sl : Int} (e1 : x1 = a) (e2 : x2 = s) (e3 : x3 = k) (e4 : x4 = m) (en : nn = n) (esl : sl = B 13 0) (hm : (m : Int) ≤ B 0 s) (h : FI B t reach n a s k m next) :
    wp (m_X9_oneSound_51 x1 x2 x3 x4 (B 0) (B 3) (B 1) sl nn t reach next) (fun u => (u.1 = 0 → (m : Int) < B 0 s ∧ u.2.1 = ((m + 1 : Nat) : Int) ∧ FI B t reach n a s k (m + 1) u.2.2) ∧ (u.1 ≠ 0 → FI B t reach n a s (k + 1) 0 u.2.2)) := by
  have hb0 := hB.2.1 s hs50
  have es : x2.toNat = s := by omega
  have ei : (3 * x2 + x4).toNat = 3 * s + m := by omega
  have ek : x3.toNat = k := by omega
  unfold m_X9_oneSound_51
  rw [es, ei, ek]
  refine wp_gd (by omega) (wp_gd (by omega) (wp_gd (by omega) (wp_if (fun c1 => ?_) (fun c1 => ?_))))
  · refine wp_some ⟨fun z => absurd z Nat.one_ne_zero, fun _ => h.same (fun q x => ?_)⟩
    constructor
    · rintro ⟨k', j, a2, a3, a4⟩
      exact ⟨k', j, by omega, a3, a4⟩
    · rintro ⟨k', j, a2, a3, a4⟩
      exact ⟨k', j, by omega, a3, a4⟩
  · have hmlt : (m : Int) < B 0 s := by omega
    obtain ⟨l, hl1, hl2⟩ := hB.2.2.2.1 s m hs50 hmlt
    have hl3 := hl1.1
    have hl4 := hl1.2.1
    have hrI := hB.1 1 (3 * s + m) (by decide) (by decide) (by decide)
    have hrL : inL (B 1 (3 * s + m)) := by omega
    have eln : (B 2 (3 * s + m)).toNat = l := by omega
    have no : (¬ (a + (k + l) ≤ n ∧ fit B t (3 * s + m) (a + k))) → ∀ q x, fph B t reach n a s k (m + 1) q x ↔ fph B t reach n a s k m q x := by
      intro hf q x
      constructor
      · rintro ⟨k', j, a2, a3, a4, a5, a6, a7⟩
        refine ⟨k', j, ?_, a3, a4, a5, a6, a7⟩
        by_cases hj : k' = k ∧ j = m
        · obtain ⟨rfl, rfl⟩ := hj
          exact absurd ⟨by omega, a5⟩ hf
        · omega
      · rintro ⟨k', j, a2, a3⟩
        exact ⟨k', j, by omega, a3⟩
    refine wp_gd (by omega) (wp_vl (wp_eq (q_sizeOf 5 4 l (Or.inl ⟨rfl, rfl⟩) rfl hrL hl1) (wp_gd (by omega) (wp_gd (by omega) (wp_if (fun c2 => ?_) (fun c2 => ?_))))))
    · refine wp_bind (q_others (p := a + k) (n := l) (top := 26) ht hl1 hrL (by omega) (by omega) rfl _ _ _ _ _ _ _) ?_
      rintro ⟨t5, x8, x9⟩ hx8
      have hx8 : x8 = (mis t (B 1 (3 * s + m)) (a + k) l : Int) := hx8
      have hmle := mis_le t (B 1 (3 * s + m)) (a + k) l
      refine wp_gd (by omega) (wp_if (fun c3 => ?_) (fun c3 => ?_))
      · have hf : fit B t (3 * s + m) (a + k) := by
          unfold fit
          rw [eln]
          omega
        have hpr := prc_bd (i := 3 * s + m) hB (by omega) hf
        have e9 : reach k + B 3 (3 * s + m) + sl * x8 = reach k + prc B t (3 * s + m) (a + k) := by
          unfold prc
          rw [eln, hx8, esl, Int.mul_comm (B 13 0)]
          omega
        have eq1 : (x3 + (l : Int)).toNat = k + l := by omega
        rw [e9, eq1]
        refine wp_gd (by omega) (wp_gd (by omega) (wp_gd (by omega) (wp_gd (h.2 _) (wp_gd (by omega) (wp_gd (by omega) (wp_vl (wp_vl (wp_some ⟨fun _ => ⟨hmlt, by show x4 + 1 = _; omega, ?_, ?_⟩, fun z => absurd rfl z⟩))))))))
        · intro q hq
          show Lst _ 134217728 (uz next (k + l) _ q)
          have hone : ∀ x, fph B t reach n a s k (m + 1) q x ↔ fph B t reach n a s k m q x ∨ (q = k + l ∧ x = reach k + prc B t (3 * s + m) (a + k)) := by
            intro x
            constructor
            · rintro ⟨k', j, a2, a3, a4, a5, a6, a7, a8⟩
              by_cases hj : k' = k ∧ j = m
              · obtain ⟨rfl, rfl⟩ := hj
                exact Or.inr ⟨by omega, a8⟩
              · exact Or.inl ⟨k', j, by omega, a3, a4, a5, a6, a7, a8⟩
            · rintro (⟨k', j, a2, a3⟩ | ⟨rfl, rfl⟩)
              · exact ⟨k', j, by omega, a3⟩
              · exact ⟨k, m, Or.inr ⟨rfl, by omega⟩, hmlt, by omega, hf, by omega, by omega, rfl⟩
          by_cases hqq : q = k + l
          · rw [hqq, uz_at]
            rw [hqq] at hone hq
            refine (h.1 (k + l) hq).push (by omega) (fun x => (hone x).trans ?_)
            constructor
            · rintro (z | ⟨_, z⟩)
              · exact Or.inl z
              · exact Or.inr z
            · rintro (z | z)
              · exact Or.inl z
              · exact Or.inr ⟨rfl, z⟩
          · rw [uz_ne _ _ hqq]
            refine (h.1 q hq).iff (fun x => (hone x).trans ?_)
            constructor
            · rintro (z | ⟨z, _⟩)
              · exact z
              · exact absurd z hqq
            · exact Or.inl
        · have := h.2 (k + l)
          exact uz_inI h.2 (by omega)
      · refine wp_vl (wp_some ⟨fun _ => ⟨hmlt, by show x4 + 1 = _; omega, h.same (no (fun z => ?_))⟩, fun z => absurd rfl z⟩)
        have := z.2
        unfold fit at this
        rw [eln] at this
        omega
    · exact wp_vl (wp_some ⟨fun _ => ⟨hmlt, by show x4 + 1 = _; omega, h.same (no (fun z => by omega))⟩, fun z => absurd rfl z⟩)
set_option maxHeartbeats 2000000 in
theorem q_oneSound {B : Nat → Nat → Int} {t reach next : Nat → Int} (hB : GB B) (ht : ∀ k, inI (t k)) {n a s : Nat} {ss : List Nat} (hn : n ≤ 36) (ha : a < n) (hs50 : s < 50) (hss : ∀ s ∈ ss, s < 50) (hlen : ss.length ≤ 9) (hT : TO B t n a ss reach) (hR : ∀ i, inI (reach i)) (hX : ∀ i, inI (next i)) {x1 x2 nn sl : Int} (e1 : x1 = a) (e2 : x2 = s) (en : nn = n) (esl : sl = B 13 0) :
    wp (m_X9_oneSound x1 x2 (B 0) (B 3) (B 1) sl nn t reach next) (fun u => TO B t n a (ss ++ [s]) u.1 ∧ (∀ i, inI (u.1 i)) ∧ ∀ i, inI (u.2 i)) := by
  have hb0 := hB.2.1 s hs50
  have bd : ∀ k, a + k ≤ n → reach k < 134217728 → 0 ≤ reach k ∧ reach k < 10000 := by
    intro k hk hlt
    have h1 := ((hT k (by omega)).1 hk).mem (by omega)
    have := spR_bd hB ss hss _ _ _ h1
    omega
  unfold m_X9_oneSound
  refine wp_bind (P := fun u : Nat × Int × (Nat → Int) => u.2.2 = fz next 0 37 134217728) (wp_loop (fun k b => b.1 = (k : Int) ∧ b.2 = fz next 0 k 134217728) 37 (by omega) ⟨rfl, (fz_nil next 134217728 (by omega)).symm⟩ ?_) ?_
  · intro k b hk hs
    obtain ⟨a1, a2⟩ := hs
    unfold m_X9_oneSound_2
    refine wp_gd (by omega) (wp_if (fun c1 => ?_) (fun c1 => ?_))
    · refine wp_end (by decide) ?_
      show b.2 = _
      rw [a2, show k = 37 by omega]
    · refine wp_gd (by omega) (wp_vl (wp_vl (wp_go ⟨by omega, by show b.1 + 1 = _; omega, ?_⟩)))
      show uz b.2 b.1.toNat 134217728 = _
      rw [a2, show b.1.toNat = k by omega, fz_step next 134217728 (by omega)]
  · rintro ⟨t2, y3, nx⟩ hnx
    have hnx : nx = fz next 0 37 134217728 := hnx
    subst hnx
    refine wp_bind (P := fun u : Nat × Int × (Nat → Int) => FI B t reach n a s (n - a + 1) 0 u.2.2) (wp_loop (fun k b => b.1 = (k : Int) ∧ FI B t reach n a s k 0 b.2) (n - a + 1) (by omega) ⟨rfl, ?_, ?_⟩ ?_) ?_
    · intro q hq
      show Lst _ 134217728 (fz next 0 37 134217728 q)
      rw [fz_in next 134217728 (by omega)]
      refine Lst.none ?_
      rintro x ⟨k', j, a2, _⟩
      omega
    · exact fz_inI hX (by decide)
    · intro k b hk hs
      obtain ⟨a1, a2⟩ := hs
      have ek : b.1.toNat = k := by omega
      unfold m_X9_oneSound_24
      refine wp_gd (by omega) (wp_gd (by omega) (wp_if (fun c1 => ?_) (fun c1 => ?_)))
      · refine wp_end (by decide) ?_
        show FI B t reach n a s (n - a + 1) 0 b.2
        rw [show n - a + 1 = k by omega]
        exact a2
      · rw [ek]
        refine wp_gd (by omega) (wp_gd (hR _) (wp_if (fun c2 => ?_) (fun c2 => ?_)))
        · refine wp_bind (P := fun u : Nat × Int × (Nat → Int) => FI B t reach n a s (k + 1) 0 u.2.2) (wp_loop (fun m d => d.1 = (m : Int) ∧ FI B t reach n a s k m d.2) (B 0 s).toNat (by omega) ⟨rfl, a2⟩ ?_) ?_
          · intro m d hm hs3
            obtain ⟨d1, d2⟩ := hs3
            refine wp_mono (q_oneIn hB ht hn hs50 (k := k) (m := m) (by omega) (bd k (by omega) c2) e1 e2 a1 d1 en esl (by omega) d2) ?_
            intro u hu
            refine ⟨fun z => ?_, hu.2⟩
            obtain ⟨f1, f2, f3⟩ := hu.1 z
            exact ⟨by omega, f2, f3⟩
          · rintro ⟨t51, y4, nx'⟩ hu
            exact wp_vl (wp_go ⟨by omega, by show b.1 + 1 = _; omega, hu⟩)
        · refine wp_vl (wp_go ⟨by omega, by show b.1 + 1 = _; omega, a2.same (fun q x => ?_)⟩)
          constructor
          · rintro ⟨k', j, a3, a4, a5, a6, a7, a8, a9⟩
            have hne : k' ≠ k := fun z => by rw [z] at a8; omega
            exact ⟨k', j, by omega, a4, a5, a6, a7, a8, a9⟩
          · rintro ⟨k', j, a3, a4⟩
            exact ⟨k', j, by omega, a4⟩
    · rintro ⟨t24, y3', nx⟩ hF
      have hF : FI B t reach n a s (n - a + 1) 0 nx := hF
      refine wp_bind (P := fun u : Nat × Int × (Nat → Int) => u.2.2 = zcp nx reach 0 0 37) (wp_loop (fun k b => b.1 = (k : Int) ∧ b.2 = zcp nx reach 0 0 k) 37 (by omega) ⟨rfl, ?_⟩ ?_) ?_
      · funext i
        unfold zcp
        rw [if_neg (by omega)]
      · intro k b hk hs
        obtain ⟨a1, a2⟩ := hs
        unfold m_X9_oneSound_220
        refine wp_gd (by omega) (wp_if (fun c1 => ?_) (fun c1 => ?_))
        · refine wp_end (by decide) ?_
          show b.2 = _
          rw [a2, show k = 37 by omega]
        · refine wp_gd (by omega) (wp_gd (by omega) (wp_vl (wp_vl (wp_go ⟨by omega, by show b.1 + 1 = _; omega, ?_⟩))))
          show uz b.2 b.1.toNat (nx b.1.toNat) = _
          rw [a2, show b.1.toNat = k by omega]
          funext i
          unfold uz zcp
          by_cases h1 : i = k
          · rw [if_pos h1, if_pos (by omega), h1]
            congr 1
            omega
          · rw [if_neg h1]
            by_cases h2 : 0 ≤ i ∧ i < 0 + k
            · rw [if_pos h2, if_pos (by omega)]
            · rw [if_neg h2, if_neg (by omega)]
      · rintro ⟨t220, y3'', re'⟩ hre
        have hre : re' = zcp nx reach 0 0 37 := hre
        subst hre
        have hget : ∀ k, k ≤ 36 → zcp nx reach 0 0 37 k = nx k := by
          intro k hk
          unfold zcp
          rw [if_pos (by omega)]
          congr 1
          omega
        refine wp_some ⟨?_, ?_, hF.2⟩
        · show TO B t n a (ss ++ [s]) (zcp nx reach 0 0 37)
          intro k hk
          rw [hget k hk]
          have hL := hF.1 k hk
          constructor
          · intro hak
            refine hL.dom ?_ ?_
            · rintro x ⟨k', j, a2, a3, a4, a5, a6, a7, a8⟩
              have h9 := ((hT k' (by omega)).1 (by omega)).mem (by omega)
              exact (spR_snoc s ss _ _ _).mpr ⟨a + k', j, reach k', h9, a3, a5, by omega, a8⟩
            · intro x hx
              obtain ⟨m, j, y, g1, g2, g3, g4, g5⟩ := (spR_snoc s ss _ _ _).mp hx
              have gb := spR_bd hB ss hss _ _ _ g1
              obtain ⟨k', ek'⟩ : ∃ k', m = a + k' := ⟨m - a, by omega⟩
              subst ek'
              have h9 := ((hT k' (by omega)).1 (by omega)).le g1
              exact ⟨reach k' + prc B t (3 * s + j) (a + k'), ⟨k', j, by omega, g2, by omega, g3, hak, h9.2, rfl⟩, by omega⟩
          · intro hak
            rcases hL with ⟨h1, _⟩ | ⟨_, ⟨k', j, a2, a3, a4, a5, a6, _⟩, _⟩
            · exact h1
            · omega
        · intro i
          show inI (zcp nx reach 0 0 37 i)
          unfold zcp
          by_cases h2 : 0 ≤ i ∧ i < 0 + 37
          · rw [if_pos h2]
            exact hF.2 _
          · rw [if_neg h2]
            exact hR i
