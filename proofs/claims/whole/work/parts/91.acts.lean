/-! acts: the reference's slots beside the class's ring -/
abbrev r8 : Type := (Nat → Int) × (Nat → Int) × (Nat → Int) × (Nat → Int) × (Nat → Int) × (Nat → Int) × (Nat → Int) × (Nat → Int)
theorem zcp_0 (f g : Nat → Int) (a b : Nat) : zcp f g a b 0 = g := by
  funext k
  unfold zcp
  rw [if_neg (by omega)]
theorem zcp_in (f g : Nat → Int) {a b n k : Nat} (h : b ≤ k ∧ k < b + n) : zcp f g a b n k = f (a + (k - b)) := by
  unfold zcp
  rw [if_pos h]
theorem zcp_out (f g : Nat → Int) {a b n k : Nat} (h : ¬ (b ≤ k ∧ k < b + n)) : zcp f g a b n k = g k := by
  unfold zcp
  rw [if_neg h]
theorem zcp_step (f g : Nat → Int) {a b n p : Nat} {v : Int} (hp : p = b + n) (hv : v = f (a + n)) : uz (zcp f g a b n) p v = zcp f g a b (n + 1) := by
  funext k
  by_cases hk : k = p
  · rw [hk, uz_at, zcp_in _ _ (by omega), hv]
    congr 1
    omega
  · rw [uz_ne _ _ hk]
    by_cases h : b ≤ k ∧ k < b + n
    · rw [zcp_in _ _ h, zcp_in _ _ (by omega)]
    · rw [zcp_out _ _ h, zcp_out _ _ (by omega)]
theorem zcp_shift (g : Nat → Int) {w k : Nat} : zcp (zcp g g w 0 (w * k)) (zcp g g w 0 (w * k)) (w * (k + 1)) (w * k) w = zcp g g w 0 (w * (k + 1)) := by
  funext j
  rw [Nat.mul_succ]
  by_cases h : w * k ≤ j ∧ j < w * k + w
  · rw [zcp_in _ _ h, zcp_out _ _ (by omega), zcp_in _ _ (by omega)]
    congr 1
    omega
  · rw [zcp_out _ _ h]
    by_cases h2 : 0 ≤ j ∧ j < 0 + w * k
    · rw [zcp_in _ _ h2, zcp_in _ _ (by omega)]
    · rw [zcp_out _ _ h2, zcp_out _ _ (by omega)]
theorem zcp_inI {f g : Nat → Int} {a b n : Nat} (hf : ∀ i, inI (f i)) (hg : ∀ i, inI (g i)) : ∀ i, inI (zcp f g a b n i) := by
  intro i
  unfold zcp
  split
  · exact hf _
  · exact hg _
set_option maxHeartbeats 2000000 in
theorem q_copyAct {x1 x2 : Int} {f p : Nat} (e1 : x1 = f) (e2 : x2 = p) (hf : f < 80) (hp : p < 80) (hfp : f = p + 1) (o : r8) : m_X9_copyAct x1 x2 o.1 o.2.1 o.2.2.1 o.2.2.2.1 o.2.2.2.2.1 o.2.2.2.2.2.1 o.2.2.2.2.2.2.1 o.2.2.2.2.2.2.2 = some (uz o.1 p (o.1 f), uz o.2.1 p (o.2.1 f), zcp o.2.2.1 o.2.2.1 (36 * f) (36 * p) 36, zcp o.2.2.2.1 o.2.2.2.1 (37 * f) (37 * p) 37, zcp o.2.2.2.2.1 o.2.2.2.2.1 (36 * f) (36 * p) 36, zcp o.2.2.2.2.2.1 o.2.2.2.2.2.1 (36 * f) (36 * p) 36, zcp o.2.2.2.2.2.2.1 o.2.2.2.2.2.2.1 (36 * f) (36 * p) 36, zcp o.2.2.2.2.2.2.2 o.2.2.2.2.2.2.2 (36 * f) (36 * p) 36) := by
  subst e1 e2
  apply wp_out
  unfold m_X9_copyAct
  refine wp_gd (by omega) (wp_gd (by omega) (wp_vl (wp_gd (by omega) (wp_gd (by omega) (wp_vl ?_)))))
  refine wp_bind (P := fun u : Nat × Int × (Nat → Int) × (Nat → Int) × (Nat → Int) × (Nat → Int) × (Nat → Int) => u.2.2 = (zcp o.2.2.1 o.2.2.1 (36 * f) (36 * p) 36, zcp o.2.2.2.2.1 o.2.2.2.2.1 (36 * f) (36 * p) 36, zcp o.2.2.2.2.2.1 o.2.2.2.2.2.1 (36 * f) (36 * p) 36, zcp o.2.2.2.2.2.2.1 o.2.2.2.2.2.2.1 (36 * f) (36 * p) 36, zcp o.2.2.2.2.2.2.2 o.2.2.2.2.2.2.2 (36 * f) (36 * p) 36))
    (wp_loop (fun k y => y = ((k : Int), zcp o.2.2.1 o.2.2.1 (36 * f) (36 * p) k, zcp o.2.2.2.2.1 o.2.2.2.2.1 (36 * f) (36 * p) k, zcp o.2.2.2.2.2.1 o.2.2.2.2.2.1 (36 * f) (36 * p) k, zcp o.2.2.2.2.2.2.1 o.2.2.2.2.2.2.1 (36 * f) (36 * p) k, zcp o.2.2.2.2.2.2.2 o.2.2.2.2.2.2.2 (36 * f) (36 * p) k)) 36 (by omega) (by rw [zcp_0, zcp_0, zcp_0, zcp_0, zcp_0]; rfl) ?_) ?_
  · intro k y hk hs
    subst hs
    unfold m_X9_copyAct_26
    refine wp_gd (by show inI (k : Int); unfold inI; omega) (wp_if (fun c => ?_) (fun c => ?_))
    · have c : (36 : Int) ≤ (k : Int) := c
      refine wp_end (by decide) ?_
      have : k = 36 := by omega
      subst this
      rfl
    · have c : ¬ (36 : Int) ≤ (k : Int) := c
      have ea : Int.toNat (36 * (p : Int) + (k : Int)) = 36 * p + k := by omega
      have eb : Int.toNat (36 * (f : Int) + (k : Int)) = 36 * f + k := by omega
      refine wp_gd ⟨by show (0 : Int) ≤ 36 * (f : Int) + (k : Int); omega, by show (36 * (f : Int) + (k : Int) : Int) < 2880; omega⟩ (wp_gd ⟨by show (0 : Int) ≤ 36 * (p : Int) + (k : Int); omega, by show (36 * (p : Int) + (k : Int) : Int) < 2880; omega⟩ (wp_vl ?_))
      refine wp_gd ⟨by show (0 : Int) ≤ 36 * (f : Int) + (k : Int); omega, by show (36 * (f : Int) + (k : Int) : Int) < 2880; omega⟩ (wp_gd ⟨by show (0 : Int) ≤ 36 * (p : Int) + (k : Int); omega, by show (36 * (p : Int) + (k : Int) : Int) < 2880; omega⟩ (wp_vl ?_))
      refine wp_gd ⟨by show (0 : Int) ≤ 36 * (f : Int) + (k : Int); omega, by show (36 * (f : Int) + (k : Int) : Int) < 2880; omega⟩ (wp_gd ⟨by show (0 : Int) ≤ 36 * (p : Int) + (k : Int); omega, by show (36 * (p : Int) + (k : Int) : Int) < 2880; omega⟩ (wp_vl ?_))
      refine wp_gd ⟨by show (0 : Int) ≤ 36 * (f : Int) + (k : Int); omega, by show (36 * (f : Int) + (k : Int) : Int) < 2880; omega⟩ (wp_gd ⟨by show (0 : Int) ≤ 36 * (p : Int) + (k : Int); omega, by show (36 * (p : Int) + (k : Int) : Int) < 2880; omega⟩ (wp_vl ?_))
      refine wp_gd ⟨by show (0 : Int) ≤ 36 * (f : Int) + (k : Int); omega, by show (36 * (f : Int) + (k : Int) : Int) < 2880; omega⟩ (wp_gd ⟨by show (0 : Int) ≤ 36 * (p : Int) + (k : Int); omega, by show (36 * (p : Int) + (k : Int) : Int) < 2880; omega⟩ (wp_vl ?_))
      refine wp_vl (wp_go ⟨by omega, ?_⟩)
      show ((k : Int) + 1, uz (zcp o.2.2.1 o.2.2.1 (36 * f) (36 * p) k) (Int.toNat (36 * (p : Int) + (k : Int))) (zcp o.2.2.1 o.2.2.1 (36 * f) (36 * p) k (Int.toNat (36 * (f : Int) + (k : Int)))), uz (zcp o.2.2.2.2.1 o.2.2.2.2.1 (36 * f) (36 * p) k) (Int.toNat (36 * (p : Int) + (k : Int))) (zcp o.2.2.2.2.1 o.2.2.2.2.1 (36 * f) (36 * p) k (Int.toNat (36 * (f : Int) + (k : Int)))), uz (zcp o.2.2.2.2.2.1 o.2.2.2.2.2.1 (36 * f) (36 * p) k) (Int.toNat (36 * (p : Int) + (k : Int))) (zcp o.2.2.2.2.2.1 o.2.2.2.2.2.1 (36 * f) (36 * p) k (Int.toNat (36 * (f : Int) + (k : Int)))), uz (zcp o.2.2.2.2.2.2.1 o.2.2.2.2.2.2.1 (36 * f) (36 * p) k) (Int.toNat (36 * (p : Int) + (k : Int))) (zcp o.2.2.2.2.2.2.1 o.2.2.2.2.2.2.1 (36 * f) (36 * p) k (Int.toNat (36 * (f : Int) + (k : Int)))), uz (zcp o.2.2.2.2.2.2.2 o.2.2.2.2.2.2.2 (36 * f) (36 * p) k) (Int.toNat (36 * (p : Int) + (k : Int))) (zcp o.2.2.2.2.2.2.2 o.2.2.2.2.2.2.2 (36 * f) (36 * p) k (Int.toNat (36 * (f : Int) + (k : Int))))) = _
      rw [ea, eb]
      have hz : ∀ g : Nat → Int, zcp g g (36 * f) (36 * p) k (36 * f + k) = g (36 * f + k) := fun g => zcp_out _ _ (by omega)
      rw [hz, hz, hz, hz, hz, zcp_step _ _ rfl rfl, zcp_step _ _ rfl rfl, zcp_step _ _ rfl rfl, zcp_step _ _ rfl rfl, zcp_step _ _ rfl rfl]
      rfl
  · rintro ⟨t26, x26, L1, F1, T1, W1, E1⟩ h
    have h : (L1, F1, T1, W1, E1) = _ := h
    injection h with h1 h; injection h with h2 h; injection h with h3 h; injection h with h4 h5
    subst h1 h2 h3 h4 h5
    refine wp_bind (P := fun u : Nat × Int × (Nat → Int) => u.2.2 = zcp o.2.2.2.1 o.2.2.2.1 (37 * f) (37 * p) 37)
      (wp_loop (fun k y => y = ((k : Int), zcp o.2.2.2.1 o.2.2.2.1 (37 * f) (37 * p) k)) 37 (by omega) (by rw [zcp_0]; rfl) ?_) ?_
    · intro k y hk hs
      subst hs
      unfold m_X9_copyAct_150
      refine wp_gd (by show inI (k : Int); unfold inI; omega) (wp_if (fun c => ?_) (fun c => ?_))
      · have c : (36 : Int) < (k : Int) := c
        refine wp_end (by decide) ?_
        have : k = 37 := by omega
        subst this
        rfl
      · have c : ¬ (36 : Int) < (k : Int) := c
        refine wp_gd ⟨by show (0 : Int) ≤ 37 * (f : Int) + (k : Int); omega, by show (37 * (f : Int) + (k : Int) : Int) < 2960; omega⟩ (wp_gd ⟨by show (0 : Int) ≤ 37 * (p : Int) + (k : Int); omega, by show (37 * (p : Int) + (k : Int) : Int) < 2960; omega⟩ (wp_vl ?_))
        refine wp_vl (wp_go ⟨by omega, ?_⟩)
        show ((k : Int) + 1, uz (zcp o.2.2.2.1 o.2.2.2.1 (37 * f) (37 * p) k) (Int.toNat (37 * (p : Int) + (k : Int))) (zcp o.2.2.2.1 o.2.2.2.1 (37 * f) (37 * p) k (Int.toNat (37 * (f : Int) + (k : Int))))) = _
        have ea : Int.toNat (37 * (p : Int) + (k : Int)) = 37 * p + k := by omega
        have eb : Int.toNat (37 * (f : Int) + (k : Int)) = 37 * f + k := by omega
        rw [ea, eb, zcp_out _ _ (by omega), zcp_step _ _ rfl rfl]
        rfl
    · rintro ⟨t27, x27, B1⟩ h
      have h : B1 = _ := h
      subst h
      exact wp_some rfl
