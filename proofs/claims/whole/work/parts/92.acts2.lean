/-- the sheet as it stands is put into slot k -/
def putA (o : r8) (k : Nat) (n fm : Int) (t br : Nat → Int) (r : r4) : r8 := (uz o.1 k n, uz o.2.1 k fm, zcp t o.2.2.1 0 (36 * k) 36, zcp br o.2.2.2.1 0 (37 * k) 37, zcp r.1 o.2.2.2.2.1 0 (36 * k) 36, zcp r.2.1 o.2.2.2.2.2.1 0 (36 * k) 36, zcp r.2.2.1 o.2.2.2.2.2.2.1 0 (36 * k) 36, zcp r.2.2.2 o.2.2.2.2.2.2.2 0 (36 * k) 36)
/-- every slot goes down by one -/
def shfA (o : r8) (k : Nat) : r8 := (zcp o.1 o.1 1 0 (1 * k), zcp o.2.1 o.2.1 1 0 (1 * k), zcp o.2.2.1 o.2.2.1 36 0 (36 * k), zcp o.2.2.2.1 o.2.2.2.1 37 0 (37 * k), zcp o.2.2.2.2.1 o.2.2.2.2.1 36 0 (36 * k), zcp o.2.2.2.2.2.1 o.2.2.2.2.2.1 36 0 (36 * k), zcp o.2.2.2.2.2.2.1 o.2.2.2.2.2.2.1 36 0 (36 * k), zcp o.2.2.2.2.2.2.2 o.2.2.2.2.2.2.2 36 0 (36 * k))
theorem zcp_1 (f g : Nat → Int) (a p : Nat) : zcp f g a p 1 = uz g p (f a) := by
  rw [← zcp_step f g (a := a) (b := p) (n := 0) (p := p) (v := f a) rfl rfl, zcp_0]
set_option maxHeartbeats 2000000 in
theorem q_act48 {k : Nat} (hk : k < 80) {n fm ma ir : Int} (e : ma = k) (t br : Nat → Int) (r : r4) (o : r8) : m_X9_act_48 n fm t br r.1 r.2.1 r.2.2.1 r.2.2.2 ma o.1 o.2.1 o.2.2.1 o.2.2.2.1 o.2.2.2.2.1 o.2.2.2.2.2.1 o.2.2.2.2.2.2.1 o.2.2.2.2.2.2.2 ir = some (ma + 1, (putA o k n fm t br r).1, (putA o k n fm t br r).2.1, (putA o k n fm t br r).2.2.1, (putA o k n fm t br r).2.2.2.1, (putA o k n fm t br r).2.2.2.2.1, (putA o k n fm t br r).2.2.2.2.2.1, (putA o k n fm t br r).2.2.2.2.2.2.1, (putA o k n fm t br r).2.2.2.2.2.2.2, ir) := by
  subst e
  apply wp_out
  unfold m_X9_act_48
  refine wp_gd (by omega) (wp_vl (wp_gd (by omega) (wp_vl ?_)))
  refine wp_bind (P := fun u : Nat × Int × (Nat → Int) × (Nat → Int) × (Nat → Int) × (Nat → Int) × (Nat → Int) => u.2.2 = (zcp t o.2.2.1 0 (36 * k) 36, zcp r.1 o.2.2.2.2.1 0 (36 * k) 36, zcp r.2.1 o.2.2.2.2.2.1 0 (36 * k) 36, zcp r.2.2.1 o.2.2.2.2.2.2.1 0 (36 * k) 36, zcp r.2.2.2 o.2.2.2.2.2.2.2 0 (36 * k) 36))
    (wp_loop (fun j y => y = ((j : Int), zcp t o.2.2.1 0 (36 * k) j, zcp r.1 o.2.2.2.2.1 0 (36 * k) j, zcp r.2.1 o.2.2.2.2.2.1 0 (36 * k) j, zcp r.2.2.1 o.2.2.2.2.2.2.1 0 (36 * k) j, zcp r.2.2.2 o.2.2.2.2.2.2.2 0 (36 * k) j)) 36 (by omega) (by rw [zcp_0, zcp_0, zcp_0, zcp_0, zcp_0]; rfl) ?_) ?_
  · intro j y hj hs
    subst hs
    unfold m_X9_act_76
    refine wp_gd (by show inI (j : Int); unfold inI; omega) (wp_if (fun c => ?_) (fun c => ?_))
    · have c : (36 : Int) ≤ (j : Int) := c
      refine wp_end (by decide) ?_
      have : j = 36 := by omega
      subst this
      rfl
    · have c : ¬ (36 : Int) ≤ (j : Int) := c
      have g1 : (0 : Int) ≤ (j : Int) ∧ (j : Int) < 36 := by omega
      have g2 : (0 : Int) ≤ 36 * (k : Int) + (j : Int) ∧ 36 * (k : Int) + (j : Int) < 2880 := by omega
      refine wp_gd g1 (wp_gd g2 (wp_vl (wp_gd g1 (wp_gd g2 (wp_vl (wp_gd g1 (wp_gd g2 (wp_vl (wp_gd g1 (wp_gd g2 (wp_vl (wp_gd g1 (wp_gd g2 (wp_vl ?_))))))))))))))
      refine wp_vl (wp_go ⟨by omega, ?_⟩)
      show ((j : Int) + 1, uz (zcp t o.2.2.1 0 (36 * k) j) (Int.toNat (36 * (k : Int) + (j : Int))) (t (Int.toNat (j : Int))), uz (zcp r.1 o.2.2.2.2.1 0 (36 * k) j) (Int.toNat (36 * (k : Int) + (j : Int))) (r.1 (Int.toNat (j : Int))), uz (zcp r.2.1 o.2.2.2.2.2.1 0 (36 * k) j) (Int.toNat (36 * (k : Int) + (j : Int))) (r.2.1 (Int.toNat (j : Int))), uz (zcp r.2.2.1 o.2.2.2.2.2.2.1 0 (36 * k) j) (Int.toNat (36 * (k : Int) + (j : Int))) (r.2.2.1 (Int.toNat (j : Int))), uz (zcp r.2.2.2 o.2.2.2.2.2.2.2 0 (36 * k) j) (Int.toNat (36 * (k : Int) + (j : Int))) (r.2.2.2 (Int.toNat (j : Int)))) = _
      have ea : Int.toNat (36 * (k : Int) + (j : Int)) = 36 * k + j := by omega
      have eb : Int.toNat (j : Int) = j := by omega
      have ec : ∀ f : Nat → Int, f j = f (0 + j) := fun f => by rw [Nat.zero_add]
      rw [ea, eb, zcp_step _ _ rfl (ec _), zcp_step _ _ rfl (ec _), zcp_step _ _ rfl (ec _), zcp_step _ _ rfl (ec _), zcp_step _ _ rfl (ec _)]
      rfl
  · rintro ⟨t26, x26, L1, F1, T1, W1, E1⟩ h
    have h : (L1, F1, T1, W1, E1) = _ := h
    injection h with h1 h; injection h with h2 h; injection h with h3 h; injection h with h4 h5
    subst h1 h2 h3 h4 h5
    refine wp_bind (P := fun u : Nat × Int × (Nat → Int) => u.2.2 = zcp br o.2.2.2.1 0 (37 * k) 37)
      (wp_loop (fun j y => y = ((j : Int), zcp br o.2.2.2.1 0 (37 * k) j)) 37 (by omega) (by rw [zcp_0]; rfl) ?_) ?_
    · intro j y hj hs
      subst hs
      unfold m_X9_act_190
      refine wp_gd (by show inI (j : Int); unfold inI; omega) (wp_if (fun c => ?_) (fun c => ?_))
      · have c : (36 : Int) < (j : Int) := c
        refine wp_end (by decide) ?_
        have : j = 37 := by omega
        subst this
        rfl
      · have c : ¬ (36 : Int) < (j : Int) := c
        have g1 : (0 : Int) ≤ (j : Int) ∧ (j : Int) < 37 := by omega
        have g2 : (0 : Int) ≤ 37 * (k : Int) + (j : Int) ∧ 37 * (k : Int) + (j : Int) < 2960 := by omega
        refine wp_gd g1 (wp_gd g2 (wp_vl (wp_vl (wp_go ⟨by omega, ?_⟩))))
        show ((j : Int) + 1, uz (zcp br o.2.2.2.1 0 (37 * k) j) (Int.toNat (37 * (k : Int) + (j : Int))) (br (Int.toNat (j : Int)))) = _
        have ea : Int.toNat (37 * (k : Int) + (j : Int)) = 37 * k + j := by omega
        have eb : Int.toNat (j : Int) = j := by omega
        rw [ea, eb, zcp_step _ _ rfl (by rw [Nat.zero_add])]
        rfl
    · rintro ⟨t27, x27, B1⟩ h
      have h : B1 = _ := h
      subst h
      exact wp_some rfl
set_option maxHeartbeats 2000000 in
theorem q_act {kp : Nat} (hk : kp ≤ 80) {n fm ma ir : Int} (e : ma = kp) (t br : Nat → Int) (r : r4) (o : r8) : ∃ k : Nat, ∃ o' : r8, ((kp < 80 ∧ k = kp ∧ o' = o) ∨ (kp = 80 ∧ k = 79 ∧ o' = shfA o 79)) ∧ m_X9_act n fm t br r.1 r.2.1 r.2.2.1 r.2.2.2 ma o.1 o.2.1 o.2.2.1 o.2.2.2.1 o.2.2.2.2.1 o.2.2.2.2.2.1 o.2.2.2.2.2.2.1 o.2.2.2.2.2.2.2 ir = some (((k + 1 : Nat) : Int), (putA o' k n fm t br r).1, (putA o' k n fm t br r).2.1, (putA o' k n fm t br r).2.2.1, (putA o' k n fm t br r).2.2.2.1, (putA o' k n fm t br r).2.2.2.2.1, (putA o' k n fm t br r).2.2.2.2.2.1, (putA o' k n fm t br r).2.2.2.2.2.2.1, (putA o' k n fm t br r).2.2.2.2.2.2.2, 0) := by
  subst e
  by_cases h80 : kp = 80
  · refine ⟨79, shfA o 79, Or.inr ⟨h80, rfl, rfl⟩, ?_⟩
    subst h80
    apply wp_out
    unfold m_X9_act
    refine wp_gd (by decide) (wp_if (fun _ => ?_) (fun c => absurd rfl c))
    refine wp_bind (P := fun u : Nat × Int × r8 => u.2.2 = shfA o 79) (wp_loop (fun k y => y = ((k : Int), shfA o k)) 79 (by omega) (by unfold shfA; rw [zcp_0, zcp_0, zcp_0, zcp_0, zcp_0, zcp_0, zcp_0, zcp_0]; rfl) ?_) ?_
    · intro k y hk hs
      subst hs
      unfold m_X9_act_16
      refine wp_gd (by show inI ((k : Int) + 1); unfold inI; omega) (wp_if (fun c => ?_) (fun c => ?_))
      · have c : (80 : Int) ≤ (k : Int) + 1 := c
        refine wp_end (by decide) ?_
        have : k = 79 := by omega
        subst this
        rfl
      · have c : ¬ (80 : Int) ≤ (k : Int) + 1 := c
        refine wp_eq (q_copyAct (f := k + 1) (p := k) (by show ((k : Int) + 1 : Int) = _; omega) rfl (by omega) (by omega) rfl (shfA o k)) ?_
        refine wp_vl (wp_go ⟨by omega, ?_⟩)
        show ((k : Int) + 1, _) = (((k + 1 : Nat) : Int), shfA o (k + 1))
        congr 1
        unfold shfA
        have h1 : ∀ g : Nat → Int, uz (zcp g g 1 0 (1 * k)) k (zcp g g 1 0 (1 * k) (k + 1)) = zcp g g 1 0 (1 * (k + 1)) := by
          intro g
          rw [← zcp_1, ← zcp_shift]
          congr 1 <;> omega
        have h36 : ∀ g : Nat → Int, zcp (zcp g g 36 0 (36 * k)) (zcp g g 36 0 (36 * k)) (36 * (k + 1)) (36 * k) 36 = zcp g g 36 0 (36 * (k + 1)) := fun g => zcp_shift g
        have h37 : ∀ g : Nat → Int, zcp (zcp g g 37 0 (37 * k)) (zcp g g 37 0 (37 * k)) (37 * (k + 1)) (37 * k) 37 = zcp g g 37 0 (37 * (k + 1)) := fun g => zcp_shift g
        simp only [h1, h36, h37]
    · rintro ⟨t16, x16, o1⟩ h
      have h : o1 = shfA o 79 := h
      subst h
      refine wp_vl ?_
      have := q_act48 (k := 79) (by decide) (n := n) (fm := fm) (ma := ((80 : Nat) : Int) - 1) (ir := 0) rfl t br r (shfA o 79)
      exact wp_of this rfl
  · refine ⟨kp, o, Or.inl ⟨by omega, rfl, rfl⟩, ?_⟩
    unfold m_X9_act
    apply wp_out
    refine wp_gd (by unfold inI; omega) (wp_if (fun c => absurd c (by omega)) (fun _ => ?_))
    have := q_act48 (k := kp) (by omega) (n := n) (fm := fm) (ma := (kp : Int)) (ir := 0) rfl t br r o
    exact wp_of this rfl
