/-! rows of members in a long -/
theorem zl_andm (x : Int) (k : Nat) (mk : Int) (hm : (zl mk).toBitVec.toNat = 2 ^ k - 1) (hk : k ≤ 31) : zland x mk = x % 2 ^ k := by
  unfold zland
  have h2 : (zl x &&& zl mk).toBitVec.toNat = (x % 18446744073709551616).toNat % 2 ^ k := by
    rw [Int64.toBitVec_and, BitVec.toNat_and, hm, zl_tn, Nat.and_two_pow_sub_one_eq_mod]
  have h3 : 0 ≤ x % 18446744073709551616 := Int.emod_nonneg _ (by decide)
  have hlt : (x % 18446744073709551616).toNat % 2 ^ k < 2 ^ k := Nat.mod_lt _ (Nat.two_pow_pos k)
  have hk2 : 2 ^ k ≤ 2 ^ 31 := Nat.pow_le_pow_right (by decide) hk
  show (zl x &&& zl mk).toBitVec.toInt = _
  rw [BitVec.toInt_eq_toNat_of_lt (by rw [h2]; omega), h2]
  push_cast
  rw [Int.toNat_of_nonneg h3]
  have hd : (2 : Int) ^ k ∣ 18446744073709551616 := by
    have : (18446744073709551616 : Int) = 2 ^ k * 2 ^ (64 - k) := by rw [← Int.pow_add, show k + (64 - k) = 64 by omega]; rfl
    exact ⟨_, this⟩
  exact Int.emod_emod_of_dvd _ hd
theorem zlor_inL (x y : Int) : inL (zlor x y) := zl_inL _
/-- the member i of a row with members of b bits -/
def pz (b : Nat) (r : Int) (i : Nat) : Int := r / 2 ^ (b * i) % 2 ^ b
def isR (b most : Nat) (top r : Int) (n : Nat) : Prop := 1 ≤ n ∧ n ≤ most ∧ 0 < r ∧ (∀ i, i < n → 1 ≤ pz b r i ∧ pz b r i ≤ top) ∧ r / 2 ^ (b * n) = 0
theorem pz_pos (b : Nat) : (0 : Int) < 2 ^ b := Int.pow_pos (by decide)
theorem pz_nonneg (b : Nat) (r : Int) (i : Nat) : 0 ≤ pz b r i := Int.emod_nonneg _ (by have := pz_pos b; omega)
theorem pz_lt (b : Nat) (r : Int) (i : Nat) : pz b r i < 2 ^ b := Int.emod_lt_of_pos _ (pz_pos b)
theorem pz_next (b : Nat) (r : Int) (i : Nat) : r / 2 ^ (b * (i + 1)) = r / 2 ^ (b * i) / 2 ^ b := by
  rw [Int.ediv_ediv_of_nonneg (by have := pz_pos (b * i); omega), ← Int.pow_add, Nat.mul_add, Nat.mul_one]
theorem pz_zero {b : Nat} {r : Int} {n : Nat} (h : r / 2 ^ (b * n) = 0) : ∀ k, n ≤ k → r / 2 ^ (b * k) = 0 := by
  intro k hk
  induction hk with
  | refl => exact h
  | step _ ih => rw [pz_next, ih]; exact Int.zero_ediv _
theorem pz_none {b : Nat} {r : Int} {n : Nat} (h : r / 2 ^ (b * n) = 0) {k : Nat} (hk : n ≤ k) : pz b r k = 0 := by
  unfold pz
  rw [pz_zero h k hk]
  exact Int.zero_emod _
theorem isR_uniq {b most : Nat} {top r : Int} {n m : Nat} (h1 : isR b most top r n) (h2 : isR b most top r m) : n = m := by
  obtain ⟨_, _, _, p1, z1⟩ := h1
  obtain ⟨_, _, _, p2, z2⟩ := h2
  rcases Nat.lt_trichotomy n m with h | h | h
  · have := (p2 n h).1
    rw [pz_none z1 (Nat.le_refl _)] at this
    omega
  · exact h
  · have := (p1 m h).1
    rw [pz_none z2 (Nat.le_refl _)] at this
    omega
theorem isR_lt {b most : Nat} {top r : Int} {n : Nat} (h : isR b most top r n) : r < 2 ^ (b * n) := by
  have h1 := h.2.2.2.2
  have h2 := pz_pos (b * n)
  have h3 := Int.emod_lt_of_pos r h2
  have h4 := Int.emod_add_mul_ediv r (2 ^ (b * n))
  rw [h1] at h4
  omega
theorem wp_out {α : Type} {o : Option α} {a : α} (h : wp o (fun v => v = a)) : o = some a := by
  obtain ⟨v, e, rfl⟩ := h
  exact e
theorem pw_le {m n : Nat} (h : m ≤ n) : (2 : Int) ^ m ≤ 2 ^ n := by
  have h1 : (2 : Nat) ^ m ≤ 2 ^ n := Nat.pow_le_pow_right (by decide) h
  exact_mod_cast h1
theorem q_piece {r x2 x3 : Int} (b i : Nat) (hb : b = 5 ∨ b = 6 ∨ b = 14) (e2 : x2 = b) (e3 : x3 = i) (hr : inL r) (hi : b * i < 64) : m_X9_piece r x2 x3 = some (pz b r i) := by
  have e : x2 * x3 = ((b * i : Nat) : Int) := by rw [e2, e3]; exact (Int.natCast_mul b i).symm
  refine wp_out ?_
  unfold m_X9_piece
  refine wp_gd hr (wp_gd (by rw [e]; omega) (wp_gd (by omega) (wp_some ?_)))
  rw [e, e2, Int.toNat_natCast, Int.toNat_natCast, zl_andm _ b _ (by rcases hb with rfl | rfl | rfl <;> decide) (by omega)]
  rfl
theorem q_sizeOf0 {r x2 : Int} (b : Nat) (hb : b = 5 ∨ b = 6 ∨ b = 14) (e2 : x2 = b) (hr : inL r) : wp (m_X9_sizeOf r x2) (fun v => ∃ k : Nat, v = k ∧ b * k < 74 ∧ (∀ i, i < k → pz b r i ≠ 0) ∧ (60 ≤ b * k ∨ pz b r k = 0)) := by
  have h7 : (2 : Int) ^ b ≤ 16384 := by rcases hb with rfl | rfl | rfl <;> decide
  unfold m_X9_sizeOf
  refine wp_bind (P := fun u : Nat × Int => ∃ k : Nat, u.2 = k ∧ b * k < 74 ∧ (∀ i, i < k → pz b r i ≠ 0) ∧ (60 ≤ b * k ∨ pz b r k = 0)) (wp_loop (fun k a => a = (k : Int) ∧ b * k < 74 ∧ ∀ i, i < k → pz b r i ≠ 0) 13 (by omega) ?_ ?_) ?_
  · exact ⟨rfl, by omega, fun i h => absurd h (by omega)⟩
  · intro k a hk hs
    obtain ⟨e1, hlt, hp⟩ := hs
    have e : x2 * a = ((b * k : Nat) : Int) := by rw [e2, e1]; exact (Int.natCast_mul b k).symm
    unfold m_X9_sizeOf_2
    refine wp_gd (by rw [e]; omega) (wp_if (fun h3 => ?_) (fun h3 => ?_))
    · rw [e] at h3
      exact wp_end (by decide) ⟨k, e1, hlt, hp, Or.inl (by omega)⟩
    · rw [e] at h3
      refine wp_eq (q_piece b k hb e2 e1 hr (by omega)) ?_
      have h5 := pz_nonneg b r k
      have h6 := pz_lt b r k
      refine wp_gd (by omega) (wp_if (fun h4 => ?_) (fun h4 => ?_))
      · exact wp_end (by decide) ⟨k, e1, hlt, hp, Or.inr h4⟩
      · refine wp_vl (wp_go ⟨?_, ?_, ?_, ?_⟩)
        · rcases hb with rfl | rfl | rfl <;> omega
        · rw [e1]; rfl
        · rcases hb with rfl | rfl | rfl <;> omega
        · intro i hi
          by_cases h8 : i = k
          · rw [h8]; exact h4
          · exact hp i (by omega)
  · rintro ⟨t, x⟩ hu
    exact wp_some hu
theorem q_sizeOf {r x2 : Int} (b most n : Nat) {top : Int} (hb : (b = 5 ∧ most = 4) ∨ (b = 6 ∧ most = 6) ∨ (b = 6 ∧ most = 3) ∨ (b = 14 ∧ most = 4)) (e2 : x2 = b) (hr : inL r) (h : isR b most top r n) : m_X9_sizeOf r x2 = some (n : Int) := by
  refine wp_out (wp_mono (q_sizeOf0 b (by omega) e2 hr) ?_)
  intro v hv
  obtain ⟨k, rfl, h1, h2, h3⟩ := hv
  obtain ⟨g1, g2, g3, g4, g5⟩ := h
  rcases Nat.lt_trichotomy k n with h | h | h
  · rcases h3 with h3 | h3
    · exfalso
      rcases hb with ⟨rfl, rfl⟩ | ⟨rfl, rfl⟩ | ⟨rfl, rfl⟩ | ⟨rfl, rfl⟩ <;> omega
    · have := (g4 k h).1
      omega
  · rw [h]
  · exact absurd (pz_none g5 (Nat.le_refl n)) (h2 n h)
theorem zushr_nn {x y : Int} (h : 0 ≤ x) : zushr x y = x / 2 ^ y.toNat := by
  unfold zushr
  rw [if_pos h]
theorem zushr_ng {x y : Int} (h : x < 0) : zushr x y = (x + 18446744073709551616) / 2 ^ y.toNat := by
  unfold zushr
  rw [if_neg (by omega)]
theorem zushr_inL {x y : Int} (hx : inL x) (hy : 1 ≤ y.toNat) : inL (zushr x y) := by
  have hp := pz_pos y.toNat
  have h2 : (2 : Int) ^ 1 ≤ 2 ^ y.toNat := pw_le hy
  have h3 : (2 : Int) ^ 1 = 2 := rfl
  rw [h3] at h2
  have key : ∀ z : Int, 0 ≤ z → z < 18446744073709551616 → inL (z / 2 ^ y.toNat) := by
    intro z h0 h1
    have a1 : 0 ≤ z / 2 ^ y.toNat := Int.ediv_nonneg h0 (by omega)
    have a2 : z / 2 ^ y.toNat < 9223372036854775808 := Int.ediv_lt_of_lt_mul hp (by omega)
    exact ⟨by omega, a2⟩
  by_cases h : 0 ≤ x
  · rw [zushr_nn h]
    exact key x h (by omega)
  · rw [zushr_ng (by omega)]
    exact key _ (by omega) (by omega)
set_option maxHeartbeats 1000000 in
theorem q_rowLength {r x2 x3 x4 : Int} (b most : Nat) (hb : (b = 5 ∧ most = 4) ∨ (b = 6 ∧ most = 6) ∨ (b = 6 ∧ most = 3) ∨ (b = 14 ∧ most = 4)) (e2 : x2 = b) (e4 : x4 = most) (h3 : 0 ≤ x3 ∧ x3 < 20000) (hr : inL r) : wp (m_X8_rowLength r x2 x3 x4) (fun v => (v = 0 ∧ ∀ n, ¬ isR b most x3 r n) ∨ ∃ n : Nat, v = n ∧ isR b most x3 r n) := by
  have hb5 : b = 5 ∨ b = 6 ∨ b = 14 := by omega
  have hbm : b * most ≤ 56 := by rcases hb with ⟨rfl, rfl⟩ | ⟨rfl, rfl⟩ | ⟨rfl, rfl⟩ | ⟨rfl, rfl⟩ <;> decide
  have h2b : (2 : Int) ^ b ≤ 16384 := by rcases hb5 with rfl | rfl | rfl <;> decide
  have hp2 := pz_pos b
  have hz : ∀ x : Int, zland x (1 * 2 ^ Int.toNat x2 - 1) = x % 2 ^ b := by
    intro x
    rw [e2, Int.toNat_natCast]
    exact zl_andm x b _ (by rcases hb5 with rfl | rfl | rfl <;> decide) (by omega)
  unfold m_X8_rowLength
  refine wp_gd (by omega) (wp_vl ?_)
  refine wp_bind (P := fun u : Nat × Int × Int => (0 ≤ r → ∃ k : Nat, u.2.2 = k ∧ u.2.1 = r / 2 ^ (b * k) ∧ k ≤ most ∧ (∀ i, i < k → 1 ≤ pz b r i ∧ pz b r i ≤ x3) ∧ (u.1 = 1 → k = most ∨ pz b r k = 0) ∧ (u.1 ≠ 1 → x3 < pz b r k)) ∧ (r < 0 → u.2.1 ≠ 0) ∧ inL u.2.1) (wp_loop (fun k a => a.2 = (k : Int) ∧ k ≤ most ∧ inL a.1 ∧ (0 ≤ r → a.1 = r / 2 ^ (b * k) ∧ ∀ i, i < k → 1 ≤ pz b r i ∧ pz b r i ≤ x3) ∧ (r < 0 → (k = 0 → a.1 = r) ∧ (0 < k → a.1 = (r + 18446744073709551616) / 2 ^ (b * k)))) most (by omega) ?_ ?_) ?_
  · refine ⟨rfl, Nat.zero_le _, hr, fun _ => ⟨?_, fun i h => absurd h (by omega)⟩, fun _ => ⟨fun _ => rfl, fun h => absurd h (by omega)⟩⟩
    show r = r / 2 ^ (b * 0)
    rw [Nat.mul_zero, Int.pow_zero, Int.ediv_one]
  · intro k a hk hs
    obtain ⟨e1, hkm, hl, hp, hn⟩ := hs
    have hbk : b * k ≤ b * most := Nat.mul_le_mul_left b hkm
    have hneg : r < 0 → a.1 ≠ 0 := by
      intro h
      rcases Nat.eq_zero_or_pos k with h0 | h0
      · rw [(hn h).1 h0]
        omega
      · rw [(hn h).2 h0]
        have h1 : (2 : Int) ^ (b * k) ≤ 2 ^ 56 := pw_le (by omega)
        have h4 : (2 : Int) ^ 56 = 72057594037927936 := by decide
        have h5 : 1 ≤ (r + 18446744073709551616) / 2 ^ (b * k) := Int.le_ediv_of_mul_le (pz_pos _) (by omega)
        omega
    have hm0 : 0 ≤ a.1 % 2 ^ b := Int.emod_nonneg _ (by omega)
    have hm1 : a.1 % 2 ^ b < 2 ^ b := Int.emod_lt_of_pos _ hp2
    have hpz : 0 ≤ r → a.1 % 2 ^ b = pz b r k := fun h => by rw [(hp h).1]; rfl
    have ex : x2.toNat = b := by omega
    unfold m_X8_rowLength_13
    rw [hz]
    refine wp_gd (by omega) (wp_gd (by omega) (wp_if (fun h4 => ?_) (fun h4 => ?_)))
    · exact wp_end (by decide) ⟨fun h => ⟨k, e1, (hp h).1, hkm, (hp h).2, fun _ => Or.inl (by omega), fun z => absurd rfl z⟩, hneg, hl⟩
    · refine wp_gd (by omega) (wp_if (fun h5 => ?_) (fun h5 => ?_))
      · exact wp_end (by decide) ⟨fun h => ⟨k, e1, (hp h).1, hkm, (hp h).2, fun _ => Or.inr (by rw [← hpz h]; exact h5), fun z => absurd rfl z⟩, hneg, hl⟩
      · refine wp_gd (by omega) (wp_gd (by omega) (wp_if (fun h6 => ?_) (fun h6 => ?_)))
        · refine wp_gd hl (wp_gd (by omega) (wp_vl (wp_vl (wp_go ⟨by omega, ?_, by omega, ?_, ?_, ?_⟩))))
          · show a.2 + 1 = _
            omega
          · exact zushr_inL hl (by omega)
          · intro h
            obtain ⟨p1, p2⟩ := hp h
            refine ⟨?_, ?_⟩
            · show zushr a.1 x2 = _
              rw [zushr_nn (by rw [p1]; exact Int.ediv_nonneg h (by have := pz_pos (b * k); omega)), ex, pz_next, p1]
            · intro i hi
              by_cases h8 : i = k
              · rw [h8, ← hpz h]
                omega
              · exact p2 i (by omega)
          · intro h
            refine ⟨fun z => absurd z (by omega), fun _ => ?_⟩
            show zushr a.1 x2 = _
            rcases Nat.eq_zero_or_pos k with h0 | h0
            · rw [(hn h).1 h0, zushr_ng h, ex, h0, Nat.zero_add, Nat.mul_one]
            · have h9 := (hn h).2 h0
              rw [zushr_nn (by rw [h9]; exact Int.ediv_nonneg (by omega) (by have := pz_pos (b * k); omega)), ex, pz_next, h9]
        · exact wp_end (by decide) ⟨fun h => ⟨k, e1, (hp h).1, hkm, (hp h).2, fun z => absurd z (show ¬ (2 : Nat) = 1 by decide), fun _ => by rw [← hpz h]; omega⟩, hneg, hl⟩
  · rintro ⟨t, x7, x9⟩ ⟨hP, hN, hL⟩
    have hP : 0 ≤ r → ∃ k : Nat, x9 = k ∧ x7 = r / 2 ^ (b * k) ∧ k ≤ most ∧ (∀ i, i < k → 1 ≤ pz b r i ∧ pz b r i ≤ x3) ∧ (t = 1 → k = most ∨ pz b r k = 0) ∧ (t ≠ 1 → x3 < pz b r k) := hP
    have hN : r < 0 → x7 ≠ 0 := hN
    have hL : inL x7 := hL
    have hno : r < 0 → ∀ n, ¬ isR b most x3 r n := fun h n z => by have := z.2.2.1; omega
    show wp (if t = 1 then m_X8_rowLength_55 x7 x9 else some 0) _
    refine wp_if (fun ht => ?_) (fun ht => ?_)
    · unfold m_X8_rowLength_55
      refine wp_gd hL (wp_if (fun h7 => wp_some ?_) (fun h7 => wp_some ?_))
      · by_cases h : 0 ≤ r
        · obtain ⟨k, a1, a2, a3, a4, a5, a6⟩ := hP h
          rw [h7] at a2
          rcases Nat.eq_zero_or_pos k with h0 | h0
          · refine Or.inl ⟨by rw [a1, h0]; rfl, fun n z => ?_⟩
            rw [h0, Nat.mul_zero, Int.pow_zero, Int.ediv_one] at a2
            have := z.2.2.1
            omega
          · refine Or.inr ⟨k, a1, h0, a3, ?_, a4, a2.symm⟩
            have h8 := (a4 0 h0).1
            unfold pz at h8
            rw [Nat.mul_zero, Int.pow_zero, Int.ediv_one] at h8
            by_cases h9 : r = 0
            · rw [h9, Int.zero_emod] at h8
              omega
            · omega
        · exact absurd h7 (hN (by omega))
      · refine Or.inl ⟨rfl, fun n z => ?_⟩
        by_cases h : 0 ≤ r
        · obtain ⟨k, a1, a2, a3, a4, a5, a6⟩ := hP h
          by_cases hnk : n ≤ k
          · exact h7 (by rw [a2]; exact pz_zero z.2.2.2.2 k hnk)
          · rcases a5 ht with h8 | h8
            · have := z.2.1
              omega
            · have := (z.2.2.2.1 k (by omega)).1
              omega
        · exact hno (by omega) n z
    · refine wp_some (Or.inl ⟨rfl, fun n z => ?_⟩)
      by_cases h : 0 ≤ r
      · obtain ⟨k, a1, a2, a3, a4, a5, a6⟩ := hP h
        have h8 := a6 ht
        by_cases hnk : n ≤ k
        · have := pz_none z.2.2.2.2 hnk
          omega
        · have := (z.2.2.2.1 k (by omega)).2
          omega
      · exact hno (by omega) n z
theorem q_isRow {r x2 x3 top : Int} (b most : Nat) (hb : (b = 5 ∧ most = 4) ∨ (b = 6 ∧ most = 6) ∨ (b = 6 ∧ most = 3) ∨ (b = 14 ∧ most = 4)) (e2 : x2 = b) (e3 : x3 = most) (ht : 0 ≤ top ∧ top < 20000) (hr : inL r) : wp (m_X9_isRow r x2 x3 top) (fun v => (v = 0 ∧ ∀ n, ¬ isR b most top r n) ∨ (v = 1 ∧ ∃ n, isR b most top r n)) := by
  have hb5 : b = 5 ∨ b = 6 ∨ b = 14 := by omega
  have hbm : b * most ≤ 56 := by rcases hb with ⟨rfl, rfl⟩ | ⟨rfl, rfl⟩ | ⟨rfl, rfl⟩ | ⟨rfl, rfl⟩ <;> decide
  have h2b : (2 : Int) ^ b ≤ 16384 := by rcases hb5 with rfl | rfl | rfl <;> decide
  have no : ∀ (x5 : Int), (∀ n, ¬ isR b most top r n) → wp (m_X9_isRow_40 r x2 top x5) (fun v => (v = 0 ∧ ∀ n, ¬ isR b most top r n) ∨ (v = 1 ∧ ∃ n, isR b most top r n)) := by
    intro x5 hn
    unfold m_X9_isRow_40 m_X9_isRow_41
    refine wp_bind (P := fun u : Nat × Int × Int => u.2.1 = 0) (wp_loop (fun k a => a.1 = 0) 0 (by omega) rfl ?_) ?_
    · intro k a hk h1
      unfold m_X9_isRow_46
      refine wp_gd (by omega) (wp_if (fun h3 => wp_end (by decide) h1) (fun h3 => absurd h1 h3))
    · rintro ⟨t, x6, x7⟩ h1
      have h1 : x6 = 0 := h1
      exact wp_gd (Or.inl h1) (wp_some (Or.inl ⟨h1, hn⟩))
  unfold m_X9_isRow
  refine wp_bind (q_sizeOf0 b hb5 e2 hr) ?_
  rintro v ⟨k, rfl, h1, h2, h4⟩
  have hkb : k < 60 := by rcases hb5 with rfl | rfl | rfl <;> omega
  have e : x2 * (k : Int) = ((b * k : Nat) : Int) := by rw [e2]; exact (Int.natCast_mul b k).symm
  have size : ∀ n, isR b most top r n → n = k := by
    intro n h
    have := q_sizeOf b most n hb e2 hr h
    obtain ⟨g1, g2, g3, g4, g5⟩ := h
    rcases Nat.lt_trichotomy k n with h | h | h
    · rcases h4 with h4 | h4
      · exfalso
        rcases hb with ⟨rfl, rfl⟩ | ⟨rfl, rfl⟩ | ⟨rfl, rfl⟩ | ⟨rfl, rfl⟩ <;> omega
      · have := (g4 k h).1
        omega
    · exact h.symm
    · exact absurd (pz_none g5 (Nat.le_refl n)) (h2 n h)
  refine wp_gd hr (wp_if (fun c1 => no _ (fun n z => by have := z.2.2.1; omega)) (fun c1 => ?_))
  refine wp_gd (by omega) (wp_if (fun c2 => no _ (fun n z => by have := size n z; have := z.1; omega)) (fun c2 => ?_))
  refine wp_gd (by omega) (wp_if (fun c3 => no _ (fun n z => by have := size n z; have := z.2.1; omega)) (fun c3 => ?_))
  have hbk : b * k ≤ b * most := Nat.mul_le_mul_left b (by omega)
  rw [e, Int.toNat_natCast]
  have hp := pz_pos (b * k)
  have hd0 : 0 ≤ r / 2 ^ (b * k) := Int.ediv_nonneg (by omega) (by omega)
  have hd1 : r / 2 ^ (b * k) ≤ r := Int.ediv_le_self _ (by omega)
  refine wp_gd (by omega) (wp_gd (by omega) (wp_if (fun c4 => ?_) (fun c4 => no _ (fun n z => c4 (by have := size n z; rw [← this]; exact z.2.2.2.2)))))
  unfold m_X9_isRow_41
  refine wp_bind (P := fun u : Nat × Int × Int => (u.2.1 = 1 ∧ ∀ i, i < k → pz b r i ≤ top) ∨ (u.2.1 = 0 ∧ ∃ i, i < k ∧ top < pz b r i)) (wp_loop (fun j a => a.2 = (j : Int) ∧ ((a.1 = 1 ∧ ∀ i, i < j → pz b r i ≤ top) ∨ (a.1 = 0 ∧ ∃ i, i < j ∧ i < k ∧ top < pz b r i))) k (by omega) ?_ ?_) ?_
  · exact ⟨rfl, Or.inl ⟨rfl, fun i h => absurd h (by omega)⟩⟩
  · intro j a hj hs
    obtain ⟨e1, hs⟩ := hs
    unfold m_X9_isRow_46
    refine wp_gd (by omega) (wp_if (fun c5 => ?_) (fun c5 => ?_))
    · refine wp_end (by decide) (Or.inr ⟨c5, ?_⟩)
      rcases hs with ⟨z, _⟩ | ⟨_, i, i1, i2, i3⟩
      · omega
      · exact ⟨i, i2, i3⟩
    · rcases hs with ⟨g1, g2⟩ | ⟨g1, _⟩
      · refine wp_gd (by omega) (wp_gd (by omega) (wp_if (fun c6 => ?_) (fun c6 => ?_)))
        · exact wp_end (by decide) (Or.inl ⟨g1, fun i hi => g2 i (by omega)⟩)
        · have hbj : b * j ≤ b * k := Nat.mul_le_mul_left b hj
          refine wp_eq (q_piece b j hb5 e2 e1 hr (by omega)) ?_
          have h5 := pz_nonneg b r j
          have h6 := pz_lt b r j
          refine wp_gd (by omega) (wp_gd (by omega) (wp_if (fun c7 => ?_) (fun c7 => ?_)))
          · refine wp_vl (wp_go ⟨by omega, by show a.2 + 1 = _; omega, Or.inr ⟨rfl, j, by omega, by omega, c7⟩⟩)
          · refine wp_vl (wp_go ⟨by omega, by show a.2 + 1 = _; omega, Or.inl ⟨rfl, fun i hi => ?_⟩⟩)
            by_cases h8 : i = j
            · rw [h8]
              omega
            · exact g2 i (by omega)
      · exact absurd g1 c5
  · rintro ⟨t, x6, x7⟩ hu
    have hu : (x6 = 1 ∧ ∀ i, i < k → pz b r i ≤ top) ∨ (x6 = 0 ∧ ∃ i, i < k ∧ top < pz b r i) := hu
    refine wp_gd (by omega) (wp_some ?_)
    rcases hu with ⟨g1, g2⟩ | ⟨g1, i, i1, i2⟩
    · refine Or.inr ⟨g1, k, by omega, by omega, by omega, fun i hi => ⟨?_, g2 i hi⟩, c4⟩
      have := h2 i hi
      have := pz_nonneg b r i
      omega
    · refine Or.inl ⟨g1, fun n z => ?_⟩
      have h9 := size n z
      have := (z.2.2.2.1 i (by omega)).2
      omega
