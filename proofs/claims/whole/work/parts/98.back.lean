/-! an act is undone; lines are learnt and unlearnt -/
set_option maxHeartbeats 2000000 in
theorem q_rback {k : Nat} (hk : k < 80) (code n fm ir im : Int) {ma : Int} (e : ma = ((k + 1 : Nat) : Int)) (t br : Nat → Int) (r : r4) (o : r8) : m_X9_back code n fm t br r.1 r.2.1 r.2.2.1 r.2.2.2 ma o.1 o.2.1 o.2.2.1 o.2.2.2.1 o.2.2.2.2.1 o.2.2.2.2.2.1 o.2.2.2.2.2.2.1 o.2.2.2.2.2.2.2 ir im = some (1, 0, o.1 k, o.2.1 k, zcp o.2.2.1 t (36 * k) 0 36, zcp o.2.2.2.1 br (37 * k) 0 37, zcp o.2.2.2.2.1 r.1 (36 * k) 0 36, zcp o.2.2.2.2.2.1 r.2.1 (36 * k) 0 36, zcp o.2.2.2.2.2.2.1 r.2.2.1 (36 * k) 0 36, zcp o.2.2.2.2.2.2.2 r.2.2.2 (36 * k) 0 36, (k : Int), 0, 0) := by
  apply wp_out
  unfold m_X9_back
  refine wp_gd (by omega) (wp_if (fun c => absurd c (by omega)) (fun _ => wp_vl ?_))
  rw [show ma - 1 = (k : Int) by omega, show Int.toNat (k : Int) = k by omega]
  refine wp_eq rfl (wp_gd (by omega) (wp_vl (wp_gd (by omega) (wp_vl ?_))))
  refine wp_bind (P := fun u : Nat × Int × (Nat → Int) × (Nat → Int) × (Nat → Int) × (Nat → Int) × (Nat → Int) => u.2.2 = (zcp o.2.2.1 t (36 * k) 0 36, zcp o.2.2.2.2.1 r.1 (36 * k) 0 36, zcp o.2.2.2.2.2.1 r.2.1 (36 * k) 0 36, zcp o.2.2.2.2.2.2.1 r.2.2.1 (36 * k) 0 36, zcp o.2.2.2.2.2.2.2 r.2.2.2 (36 * k) 0 36))
    (wp_loop (fun j y => y = ((j : Int), zcp o.2.2.1 t (36 * k) 0 j, zcp o.2.2.2.2.1 r.1 (36 * k) 0 j, zcp o.2.2.2.2.2.1 r.2.1 (36 * k) 0 j, zcp o.2.2.2.2.2.2.1 r.2.2.1 (36 * k) 0 j, zcp o.2.2.2.2.2.2.2 r.2.2.2 (36 * k) 0 j)) 36 (by omega) (by rw [zcp_0, zcp_0, zcp_0, zcp_0, zcp_0]; rfl) ?_) ?_
  · intro j y hj hs
    subst hs
    unfold m_X9_back_56
    refine wp_gd (by show inI (j : Int); unfold inI; omega) (wp_if (fun c => ?_) (fun c => ?_))
    · have c : (36 : Int) ≤ (j : Int) := c
      refine wp_end (by decide) ?_
      have : j = 36 := by omega
      subst this
      rfl
    · have c : ¬ (36 : Int) ≤ (j : Int) := c
      have g1 : (0 : Int) ≤ (j : Int) ∧ (j : Int) < 36 := by omega
      have g2 : (0 : Int) ≤ 36 * (k : Int) + (j : Int) ∧ 36 * (k : Int) + (j : Int) < 2880 := by omega
      refine wp_gd g2 (wp_gd g1 (wp_vl (wp_gd g2 (wp_gd g1 (wp_vl (wp_gd g2 (wp_gd g1 (wp_vl (wp_gd g2 (wp_gd g1 (wp_vl (wp_gd g2 (wp_gd g1 (wp_vl ?_))))))))))))))
      refine wp_vl (wp_go ⟨by omega, ?_⟩)
      show ((j : Int) + 1, uz (zcp o.2.2.1 t (36 * k) 0 j) (Int.toNat (j : Int)) (o.2.2.1 (Int.toNat (36 * (k : Int) + (j : Int)))), uz (zcp o.2.2.2.2.1 r.1 (36 * k) 0 j) (Int.toNat (j : Int)) (o.2.2.2.2.1 (Int.toNat (36 * (k : Int) + (j : Int)))), uz (zcp o.2.2.2.2.2.1 r.2.1 (36 * k) 0 j) (Int.toNat (j : Int)) (o.2.2.2.2.2.1 (Int.toNat (36 * (k : Int) + (j : Int)))), uz (zcp o.2.2.2.2.2.2.1 r.2.2.1 (36 * k) 0 j) (Int.toNat (j : Int)) (o.2.2.2.2.2.2.1 (Int.toNat (36 * (k : Int) + (j : Int)))), uz (zcp o.2.2.2.2.2.2.2 r.2.2.2 (36 * k) 0 j) (Int.toNat (j : Int)) (o.2.2.2.2.2.2.2 (Int.toNat (36 * (k : Int) + (j : Int))))) = _
      have ea : Int.toNat (36 * (k : Int) + (j : Int)) = 36 * k + j := by omega
      have eb : Int.toNat (j : Int) = j := by omega
      have ec : j = 0 + j := by omega
      rw [ea, eb, zcp_step _ _ ec rfl, zcp_step _ _ ec rfl, zcp_step _ _ ec rfl, zcp_step _ _ ec rfl, zcp_step _ _ ec rfl]
      rfl
  · rintro ⟨t26, x26, L1, F1, T1, W1, E1⟩ h
    have h : (L1, F1, T1, W1, E1) = _ := h
    injection h with h1 h; injection h with h2 h; injection h with h3 h; injection h with h4 h5
    subst h1 h2 h3 h4 h5
    refine wp_bind (P := fun u : Nat × Int × (Nat → Int) => u.2.2 = zcp o.2.2.2.1 br (37 * k) 0 37)
      (wp_loop (fun j y => y = ((j : Int), zcp o.2.2.2.1 br (37 * k) 0 j)) 37 (by omega) (by rw [zcp_0]; rfl) ?_) ?_
    · intro j y hj hs
      subst hs
      unfold m_X9_back_170
      refine wp_gd (by show inI (j : Int); unfold inI; omega) (wp_if (fun c => ?_) (fun c => ?_))
      · have c : (36 : Int) < (j : Int) := c
        refine wp_end (by decide) ?_
        have : j = 37 := by omega
        subst this
        rfl
      · have c : ¬ (36 : Int) < (j : Int) := c
        have g1 : (0 : Int) ≤ (j : Int) ∧ (j : Int) < 37 := by omega
        have g2 : (0 : Int) ≤ 37 * (k : Int) + (j : Int) ∧ 37 * (k : Int) + (j : Int) < 2960 := by omega
        refine wp_gd g2 (wp_gd g1 (wp_vl (wp_vl (wp_go ⟨by omega, ?_⟩))))
        show ((j : Int) + 1, uz (zcp o.2.2.2.1 br (37 * k) 0 j) (Int.toNat (j : Int)) (o.2.2.2.1 (Int.toNat (37 * (k : Int) + (j : Int))))) = _
        have ea : Int.toNat (37 * (k : Int) + (j : Int)) = 37 * k + j := by omega
        have eb : Int.toNat (j : Int) = j := by omega
        have ec : j = 0 + j := by omega
        rw [ea, eb, zcp_step _ _ ec rfl]
        rfl
    · rintro ⟨t27, x27, B1⟩ h
      have h : B1 = _ := h
      subst h
      exact wp_some rfl
set_option maxHeartbeats 1000000 in
theorem z_back {B : Nat → Nat → Int} {t : Nat → Int} {n fm : Nat} {r : r4} {ring : List zSv} {nx kp : Nat} {o : r8} (hB : GB B) (hS : SHT B t n fm r.1 r.2.1 r.2.2.1 r.2.2.2) (hA : ACT B ring nx kp o) (lk lp rk code ir im : Int) :
    (m_X8_back ring nx kp lk lp rk n t (B 17) (B 19) = some (0, (nx : Int), (kp : Int), 0, -1, 0, (n : Int), t, B 17, B 19) ∧ m_X9_back code n fm t (B 17) r.1 r.2.1 r.2.2.1 r.2.2.2 kp o.1 o.2.1 o.2.2.1 o.2.2.2.1 o.2.2.2.2.1 o.2.2.2.2.2.1 o.2.2.2.2.2.2.1 o.2.2.2.2.2.2.2 ir im = some (0, 0, (n : Int), (fm : Int), t, B 17, r.1, r.2.1, r.2.2.1, r.2.2.2, (kp : Int), ir, im)) ∨
    (∃ (nx' kp' n' fm' : Nat) (t' br' fx' : Nat → Int) (r' : r4), m_X8_back ring nx kp lk lp rk n t (B 17) (B 19) = some (1, (nx' : Int), (kp' : Int), 0, -1, 0, (n' : Int), t', br', fx') ∧ m_X9_back code n fm t (B 17) r.1 r.2.1 r.2.2.1 r.2.2.2 kp o.1 o.2.1 o.2.2.1 o.2.2.2.1 o.2.2.2.2.1 o.2.2.2.2.2.1 o.2.2.2.2.2.2.1 o.2.2.2.2.2.2.2 ir im = some (1, 0, (n' : Int), (fm' : Int), t', br', r'.1, r'.2.1, r'.2.2.1, r'.2.2.2, (kp' : Int), 0, 0) ∧ (∀ i, inI (br' i)) ∧ (∀ i, inI (fx' i)) ∧ SHT (upS B br' fx') t' n' fm' r'.1 r'.2.1 r'.2.2.1 r'.2.2.2 ∧ ACT (upS B br' fx') ring nx' kp' o) := by
  obtain ⟨hn, ht, h36, hF, hFi⟩ := hS
  have h17 := fun i => hB.1 17 i (by decide) (by decide) (by decide)
  have h19 := fun i => hB.1 19 i (by decide) (by decide) (by decide)
  cases kp with
  | zero =>
    left
    refine ⟨?_, ?_⟩
    · apply wp_out
      unfold m_X8_back m_X0_undo
      refine wp_eq rfl ?_
      show wp (Option.bind (if ((0 : Nat) : Int) = 0 then _ else _) _) _
      rw [if_pos (show ((0 : Nat) : Int) = 0 from rfl)]
      exact wp_gd (by decide) (wp_some rfl)
    · apply wp_out
      unfold m_X9_back
      exact wp_gd (by decide) (wp_if (fun _ => wp_some rfl) (fun c => absurd rfl c))
  | succ k =>
    right
    have hnx := hA.1
    have hk80 := hA.2.1
    obtain ⟨g, eg, hg, hA'⟩ := hA.undo
    obtain ⟨n', fm', s1, s2, s3, s4, s5, s6, s7, s8, s9⟩ := hg
    have z : ∀ (f g : Nat → Int) (a j : Nat), j < 36 → zcp f g a 0 36 j = f (a + j) := by
      intro f g a j hj
      rw [zcp_in _ _ (by omega)]
      rfl
    have zo : ∀ (f g : Nat → Int) (a j : Nat), 36 ≤ j → zcp f g a 0 36 j = g j := fun f g a j hj => zcp_out _ _ (by omega)
    have et : zcp g.2.1 t 0 0 36 = zcp o.2.2.1 t (36 * k) 0 36 := by
      funext j
      by_cases hj : j < 36
      · rw [z _ _ _ j hj, z _ _ _ j hj, Nat.zero_add]
        exact (s5 j hj).1
      · rw [zo _ _ _ j (by omega), zo _ _ _ j (by omega)]
    have eb : zcp g.2.2.1 (B 17) 0 0 36 = zcp o.2.2.2.1 (B 17) (37 * k) 0 37 := by
      funext j
      by_cases hj : j < 36
      · rw [z _ _ _ j hj, zcp_in _ _ (by omega), Nat.zero_add]
        exact (s6 j hj).1
      · rw [zo _ _ _ j (by omega)]
        by_cases h6 : j = 36
        · rw [h6, zcp_in _ _ (by omega), h36 36 (by omega)]
          exact s7.symm
        · rw [zcp_out _ _ (by omega)]
    have i36 : ∀ (f g : Nat → Int) (a : Nat), (∀ j, j < 36 → inI (f (a + j))) → (∀ j, inI (g j)) → ∀ j, inI (zcp f g a 0 36 j) := by
      intro f g a hf hg j
      by_cases hj : j < 36
      · rw [z _ _ _ j hj]
        exact hf j hj
      · rw [zo _ _ _ j (by omega)]
        exact hg j
    refine ⟨(nx + 79) % 80, k, n', fm', zcp g.2.1 t 0 0 36, zcp g.2.2.1 (B 17) 0 0 36, zcp g.2.2.2 (B 19) 0 0 36, (zcp o.2.2.2.2.1 r.1 (36 * k) 0 36, zcp o.2.2.2.2.2.1 r.2.1 (36 * k) 0 36, zcp o.2.2.2.2.2.2.1 r.2.2.1 (36 * k) 0 36, zcp o.2.2.2.2.2.2.2 r.2.2.2 (36 * k) 0 36), ?_, ?_, ?_, ?_, ⟨s2, ?_, fun i hi => ?_, ?_, fun i => ⟨?_, ?_, ?_, ?_⟩⟩, hA'.mono (fun e he => (upS_EV _ _ _ e).mpr he)⟩
    · apply wp_out
      have e79 : Int.tmod ((nx : Int) + 80 - 1) 80 = (((nx + 79) % 80 : Nat) : Int) := tmod80 (nx + 79) (by omega)
      have hg1 : (0 : Int) ≤ (nx : Int) ∧ (nx : Int) < 80 := by omega
      have hg2 : (0 : Int) < ((k + 1 : Nat) : Int) ∧ ((k + 1 : Nat) : Int) ≤ 80 := by omega
      have eu : m_X0_undo ring nx ((k + 1 : Nat) : Int) n t (B 17) (B 19) = some (1, (((nx + 79) % 80 : Nat) : Int), (k : Int), (n' : Int), zcp g.2.1 t 0 0 36, zcp g.2.2.1 (B 17) 0 0 36, zcp g.2.2.2 (B 19) 0 0 36) := by
        apply wp_out
        unfold m_X0_undo
        refine wp_if (fun c => absurd c (by omega)) (fun _ => wp_gd hg1 (wp_gd hg2 ?_))
        rw [e79, show Int.toNat (((nx + 79) % 80 : Nat) : Int) = (nx + 79) % 80 by omega, eg]
        refine wp_some ?_
        rw [s1, show ((k + 1 : Nat) : Int) - 1 = (k : Int) by omega]
      unfold m_X8_back
      exact wp_eq rfl (wp_eq eu (wp_gd (Or.inr rfl) (wp_some rfl)))
    · rw [et, eb, q_rback (by omega) code n fm ir im rfl t (B 17) r o, s3, s4]
    · exact i36 _ _ 0 (fun j hj => by rw [Nat.zero_add]; exact (s6 j hj).2.1) h17
    · exact i36 _ _ 0 (fun j hj => by rw [Nat.zero_add]; exact (s6 j hj).2.2) h19
    · intro j
      by_cases hj : j < 36
      · rw [z _ _ _ j hj, Nat.zero_add]
        exact (s5 j hj).2
      · rw [zo _ _ _ j (by omega)]
        exact ht j
    · rw [upS_17, zo _ _ _ i hi]
      exact h36 i hi
    · refine FX_cg s2 (fun p hp => ?_) (fun p hp => ?_) (fun e he => (upS_EV _ _ _ e).mpr ((upS_EV _ _ _ e).mp he)) (fun f hf => ?_) s9
      · rw [upS_17, upS_17, z _ _ _ p hp, Nat.zero_add]
      · rw [upS_19, upS_19, z _ _ _ p hp, Nat.zero_add]
      · exact ⟨z _ _ _ f hf, z _ _ _ f hf, z _ _ _ f hf, z _ _ _ f hf⟩
    · exact i36 _ _ _ (fun j hj => (s8 j hj).1) (fun j => (hFi j).1) i
    · exact i36 _ _ _ (fun j hj => (s8 j hj).2.1) (fun j => (hFi j).2.1) i
    · exact i36 _ _ _ (fun j hj => (s8 j hj).2.2.1) (fun j => (hFi j).2.2.1) i
    · exact i36 _ _ _ (fun j hj => (s8 j hj).2.2.2) (fun j => (hFi j).2.2.2) i
/-- counts after k parts -/
def lC (E : Nat → Int) (by' : Int) (C : Nat → Int) : Nat → Nat → Int
  | 0 => C
  | k + 1 => if E k = 540 then lC E by' C k else uz (lC E by' C k) (E k / 9).toNat (lC E by' C k (E k / 9).toNat + by')
/-- pairs after k parts -/
def lP (K E : Nat → Int) (by' : Int) (Q : Nat → Int) : Nat → Nat → Int
  | 0 => Q
  | k + 1 => if k = 0 then lP K E by' Q k else uz (lP K E by' Q k) (kd K (E (k - 1)) * 9 + kd K (E k)).toNat (lP K E by' Q k (kd K (E (k - 1)) * 9 + kd K (E k)).toNat + by')
theorem lC_bd {E : Nat → Int} {by' : Int} (hb : -1 ≤ by' ∧ by' ≤ 1) {C : Nat → Int} {M : Int} (h : ∀ i, -M ≤ C i ∧ C i ≤ M) : ∀ k i, -(M + k) ≤ lC E by' C k i ∧ lC E by' C k i ≤ M + k := by
  intro k
  induction k with
  | zero =>
    intro i
    have := h i
    show -(M + ((0 : Nat) : Int)) ≤ C i ∧ C i ≤ M + ((0 : Nat) : Int)
    omega
  | succ k ih =>
    intro i
    show -(M + ((k + 1 : Nat) : Int)) ≤ (if E k = 540 then lC E by' C k else uz (lC E by' C k) (E k / 9).toNat (lC E by' C k (E k / 9).toNat + by')) i ∧ (if E k = 540 then lC E by' C k else uz (lC E by' C k) (E k / 9).toNat (lC E by' C k (E k / 9).toNat + by')) i ≤ M + ((k + 1 : Nat) : Int)
    by_cases c : E k = 540
    · rw [if_pos c]
      have := ih i
      omega
    · rw [if_neg c]
      by_cases hi : i = (E k / 9).toNat
      · rw [hi, uz_at]
        have := ih (E k / 9).toNat
        omega
      · rw [uz_ne _ _ hi]
        have := ih i
        omega
theorem lP_bd {K E : Nat → Int} {by' : Int} (hb : -1 ≤ by' ∧ by' ≤ 1) {Q : Nat → Int} {M : Int} (h : ∀ i, -M ≤ Q i ∧ Q i ≤ M) : ∀ k i, -(M + k) ≤ lP K E by' Q k i ∧ lP K E by' Q k i ≤ M + k := by
  intro k
  induction k with
  | zero =>
    intro i
    have := h i
    show -(M + ((0 : Nat) : Int)) ≤ Q i ∧ Q i ≤ M + ((0 : Nat) : Int)
    omega
  | succ k ih =>
    intro i
    show -(M + ((k + 1 : Nat) : Int)) ≤ (if k = 0 then lP K E by' Q k else uz (lP K E by' Q k) (kd K (E (k - 1)) * 9 + kd K (E k)).toNat (lP K E by' Q k (kd K (E (k - 1)) * 9 + kd K (E k)).toNat + by')) i ∧ (if k = 0 then lP K E by' Q k else uz (lP K E by' Q k) (kd K (E (k - 1)) * 9 + kd K (E k)).toNat (lP K E by' Q k (kd K (E (k - 1)) * 9 + kd K (E k)).toNat + by')) i ≤ M + ((k + 1 : Nat) : Int)
    by_cases c : k = 0
    · rw [if_pos c]
      have := ih i
      omega
    · rw [if_neg c]
      by_cases hi : i = (kd K (E (k - 1)) * 9 + kd K (E k)).toNat
      · rw [hi, uz_at]
        have := ih (kd K (E (k - 1)) * 9 + kd K (E k)).toNat
        omega
      · rw [uz_ne _ _ hi]
        have := ih i
        omega
theorem uz_self (f : Nat → Int) (k : Nat) : uz f k (f k) = f := by
  funext i
  unfold uz
  by_cases h : i = k
  · rw [if_pos h, h]
  · rw [if_neg h]
def SCx (p q sc : Nat → Int) : Prop := ∀ i, i < 81 → sc i = p i - 2 * (bl (q i) : Int)
theorem SCx_o {B : Nat → Nat → Int} {sc : Nat → Int} : SCo B sc ↔ SCx (B 14) (B 15) sc := by
  constructor
  · intro h i hi
    have := h (i / 9) (i % 9) (by omega) (by omega)
    unfold stp at this
    rw [if_neg (by omega), show 9 * (i / 9) + i % 9 = i by omega, show (9 * ((i / 9 : Nat) : Int) + ((i % 9 : Nat) : Int)).toNat = i by omega] at this
    exact this
  · intro h a b ha hb
    unfold stp
    rw [if_neg (by omega), show (9 * (a : Int) + (b : Int)).toNat = 9 * a + b by omega]
    exact h _ (by omega)
/-- entries that may be learnt -/
def okE (K E : Nat → Int) (P : Nat) : Prop := ∀ j, j < P → (0 ≤ E j ∧ E j ≤ 540) ∧ (0 ≤ kd K (E j) ∧ kd K (E j) ≤ 8)
set_option maxHeartbeats 1000000 in
theorem q_learn {K C p q sc g0 : Nat → Int} {first P gn : Nat} {by' M : Int} (hb : -1 ≤ by' ∧ by' ≤ 1) (hM : M ≤ 100000) (hq : ∀ i, -M ≤ q i ∧ q i ≤ M) (hP : P ≤ 36) (hg : first + P ≤ gn) (hgn : gn ≤ 1440) (hE : okE K (fun j => g0 (first + j)) P) (hsc : SCx p q sc) {x2 x3 : Int} (e2 : x2 = first) (e3 : x3 = P) :
    wp (m_X1_learn x2 x3 by' K C p q sc g0 gn) (fun u => u.1 = lC (fun j => g0 (first + j)) by' C P ∧ u.2.1 = p ∧ u.2.2.1 = lP K (fun j => g0 (first + j)) by' q P ∧ SCx p (lP K (fun j => g0 (first + j)) by' q P) u.2.2.2) := by
  obtain ⟨E, eE⟩ : ∃ E : Nat → Int, E = fun j => g0 (first + j) := ⟨_, rfl⟩
  rw [← eE] at hE ⊢
  have hbd := fun k i => lP_bd (K := K) (E := E) hb hq k i
  unfold m_X1_learn
  refine wp_bind (P := fun u : Nat × Int × (Nat → Int) × (Nat → Int) × (Nat → Int) × (Nat → Int) => u.2.2.1 = lC E by' C P ∧ u.2.2.2.1 = p ∧ u.2.2.2.2.1 = lP K E by' q P ∧ SCx p (lP K E by' q P) u.2.2.2.2.2) (wp_loop (fun k y => y.1 = ((first + k : Nat) : Int) ∧ y.2.1 = lC E by' C k ∧ y.2.2.1 = p ∧ y.2.2.2.1 = lP K E by' q k ∧ SCx p (lP K E by' q k) y.2.2.2.2) P (by omega) ⟨by show x2 = _; omega, rfl, rfl, rfl, hsc⟩ ?_) ?_
  · intro k y hk hs
    obtain ⟨y1, y2, y3, y4, y5⟩ := y
    obtain ⟨e1, c1, c2, c3, c4⟩ := hs
    have e1 : y1 = ((first + k : Nat) : Int) := e1
    have c1 : y2 = lC E by' C k := c1
    have c2 : y3 = p := c2
    have c3 : y4 = lP K E by' q k := c3
    have c4 : SCx p (lP K E by' q k) y5 := c4
    subst c2
    show wp (m_X1_learn_3 x2 x3 by' y1 K y2 y3 y4 y5 g0 gn) _
    unfold m_X1_learn_3
    refine wp_gd (by omega) (wp_gd (by omega) (wp_if (fun d1 => ?_) (fun d1 => ?_)))
    · have : k = P := by omega
      subst this
      exact wp_end (by decide) ⟨c1, rfl, c3, c4⟩
    · have et : y1.toNat = first + k := by omega
      have eEk : g0 y1.toNat = E k := by rw [et, eE]
      have hk36 : k < P := by omega
      have hEk := hE k hk36
      have h38 : ∀ cc : Nat → Int, cc = lC E by' C (k + 1) → wp (m_X1_learn_38 x2 x3 by' y1 K cc y3 y4 y5 g0 gn) (fun u : Nat × Int × (Nat → Int) × (Nat → Int) × (Nat → Int) × (Nat → Int) => (u.1 = 0 → k < P ∧ u.2.1 = ((first + (k + 1) : Nat) : Int) ∧ u.2.2.1 = lC E by' C (k + 1) ∧ u.2.2.2.1 = y3 ∧ u.2.2.2.2.1 = lP K E by' q (k + 1) ∧ SCx y3 (lP K E by' q (k + 1)) u.2.2.2.2.2) ∧ (u.1 ≠ 0 → u.2.2.1 = lC E by' C P ∧ u.2.2.2.1 = y3 ∧ u.2.2.2.2.1 = lP K E by' q P ∧ SCx y3 (lP K E by' q P) u.2.2.2.2.2)) := by
        intro cc hcc
        unfold m_X1_learn_38
        refine wp_gd (by omega) (wp_gd (by omega) (wp_if (fun d2 => ?_) (fun d2 => ?_)))
        · have hk0 : k = 0 := by omega
          have el : lP K E by' q (k + 1) = lP K E by' q k := by
            show (if k = 0 then _ else _) = _
            rw [if_pos hk0]
          refine wp_vl (wp_go ⟨by omega, by show y1 + 1 = _; omega, hcc, rfl, ?_, ?_⟩)
          · rw [el]
            exact c3
          · rw [el]
            exact c4
        · have hk0 : k ≠ 0 := by omega
          have hE1 := hE (k - 1) (by omega)
          have et1 : (y1 - 1).toNat = first + (k - 1) := by omega
          have eE1 : g0 (y1 - 1).toNat = E (k - 1) := by rw [et1, eE]
          have el : lP K E by' q (k + 1) = uz (lP K E by' q k) (kd K (E (k - 1)) * 9 + kd K (E k)).toNat (lP K E by' q k (kd K (E (k - 1)) * 9 + kd K (E k)).toNat + by') := by
            show (if k = 0 then _ else _) = _
            rw [if_neg hk0]
          rw [eEk, eE1]
          refine wp_gd (by omega) (wp_eq (q_kindOf hE1.1) (wp_gd (by omega) (wp_eq (q_kindOf hEk.1) (wp_vl (wp_gd (by omega) (wp_gd (by omega) (wp_vl (wp_gd (by omega) ?_))))))))
          obtain ⟨pl, epl⟩ : ∃ pl : Nat, pl = (kd K (E (k - 1)) * 9 + kd K (E k)).toNat := ⟨_, rfl⟩
          rw [← epl] at el ⊢
          rw [c3, ← el]
          have hin : inI (lP K E by' q (k + 1) pl) := by
            have := hbd (k + 1) pl
            omega
          refine wp_eq (q_priceStep (at' := pl) (by omega) (by omega) _ _ _ hin) ?_
          refine wp_vl (wp_go ⟨by omega, by show y1 + 1 = _; omega, hcc, ?_, rfl, ?_⟩)
          · exact uz_self _ _
          · intro i hi
            show uz y5 pl _ i = _
            by_cases hip : i = pl
            · rw [hip, uz_at]
            · rw [uz_ne _ _ hip, el, uz_ne _ _ hip]
              exact c4 i hi
      rw [eEk]
      refine wp_gd (by omega) ?_
      by_cases d3 : E k = 540
      · have elc : lC E by' C (k + 1) = lC E by' C k := by
          show (if E k = 540 then _ else _) = _
          rw [if_pos d3]
        rw [d3]
        refine wp_eq q_wordOfG (wp_gd (by decide) (wp_if (fun _ => ?_) (fun c => absurd rfl c)))
        exact h38 y2 (by rw [elc]; exact c1)
      · have elc : lC E by' C (k + 1) = uz (lC E by' C k) (E k / 9).toNat (lC E by' C k (E k / 9).toNat + by') := by
          show (if E k = 540 then _ else _) = _
          rw [if_neg d3]
        refine wp_eq (q_wordOf (by omega)) (wp_gd (by omega) (wp_if (fun c => absurd c (by omega)) (fun _ => wp_gd (by omega) (wp_gd (by omega) (wp_vl ?_)))))
        exact h38 _ (by rw [elc, c1])
  · rintro ⟨t3, y1, y2, y3, y4, y5⟩ hu
    exact wp_some hu
set_option maxHeartbeats 1000000 in
theorem q_rlearn {K C q kM kW kK E : Nat → Int} {tt P : Nat} {by' : Int} (hP : P ≤ 36) (ht : tt < 40) (hE : okE K E P) (hm : kM tt = P) (hk : ∀ j, j < P → kK (36 * tt + j) = kd K (E j) ∧ kW (36 * tt + j) = E j / 9) {x1 : Int} (e1 : x1 = tt) :
    m_X9_learn x1 by' C q kM kW kK = some (lC E by' C P, lP K E by' q P) := by
  apply wp_out
  unfold m_X9_learn
  refine wp_bind (P := fun u : Nat × Int × (Nat → Int) × (Nat → Int) => u.2.2.1 = lC E by' C P ∧ u.2.2.2 = lP K E by' q P) (wp_loop (fun k y => y.1 = (k : Int) ∧ y.2.1 = lC E by' C k ∧ y.2.2 = lP K E by' q k) P (by omega) ⟨rfl, rfl, rfl⟩ ?_) ?_
  · intro k y hkP hs
    obtain ⟨y1, y2, y3⟩ := y
    obtain ⟨c0, c1, c2⟩ := hs
    have c0 : y1 = (k : Int) := c0
    have c1 : y2 = lC E by' C k := c1
    have c2 : y3 = lP K E by' q k := c2
    show wp (m_X9_learn_2 x1 by' y1 y2 y3 kM kW kK) _
    unfold m_X9_learn_2
    have ex : x1.toNat = tt := by omega
    have ei : (36 * x1 + y1).toNat = 36 * tt + k := by omega
    rw [ex, hm, ei]
    refine wp_gd (by omega) (wp_gd (by omega) (wp_gd (by omega) (wp_if (fun d1 => ?_) (fun d1 => ?_))))
    · have : k = P := by omega
      subst this
      exact wp_end (by decide) ⟨c1, c2⟩
    · have hkp : k < P := by omega
      obtain ⟨hk1, hk2⟩ := hk k hkp
      have hEk := hE k hkp
      have h48 : ∀ cc : Nat → Int, cc = lC E by' C (k + 1) → wp (m_X9_learn_48 x1 by' y1 cc y3 kM kW kK) (fun u : Nat × Int × (Nat → Int) × (Nat → Int) => (u.1 = 0 → k < P ∧ u.2.1 = ((k + 1 : Nat) : Int) ∧ u.2.2.1 = lC E by' C (k + 1) ∧ u.2.2.2 = lP K E by' q (k + 1)) ∧ (u.1 ≠ 0 → u.2.2.1 = lC E by' C P ∧ u.2.2.2 = lP K E by' q P)) := by
        intro cc hcc
        unfold m_X9_learn_48
        refine wp_gd (by omega) (wp_if (fun d2 => ?_) (fun d2 => ?_))
        · have hk0 : k = 0 := by omega
          have el : lP K E by' q (k + 1) = lP K E by' q k := by
            show (if k = 0 then _ else _) = _
            rw [if_pos hk0]
          refine wp_vl (wp_go ⟨by omega, by show y1 + 1 = _; omega, hcc, ?_⟩)
          rw [el]
          exact c2
        · have hk0 : k ≠ 0 := by omega
          obtain ⟨hk3, _⟩ := hk (k - 1) (by omega)
          have hE1 := hE (k - 1) (by omega)
          have ei1 : (36 * x1 + y1 - 1).toNat = 36 * tt + (k - 1) := by omega
          have el : lP K E by' q (k + 1) = uz (lP K E by' q k) (kd K (E (k - 1)) * 9 + kd K (E k)).toNat (lP K E by' q k (kd K (E (k - 1)) * 9 + kd K (E k)).toNat + by') := by
            show (if k = 0 then _ else _) = _
            rw [if_neg hk0]
          rw [ei, ei1, hk1, hk3]
          have e9 : (9 * kd K (E (k - 1)) + kd K (E k)).toNat = (kd K (E (k - 1)) * 9 + kd K (E k)).toNat := by omega
          rw [e9]
          refine wp_gd (by omega) (wp_gd (by omega) (wp_gd (by omega) (wp_gd (by omega) (wp_vl (wp_vl (wp_go ⟨by omega, by show y1 + 1 = _; omega, hcc, ?_⟩))))))
          show uz y3 _ _ = _
          rw [el, c2]
      rw [hk2]
      refine wp_gd (by omega) (wp_gd (by omega) ?_)
      by_cases d3 : E k = 540
      · have elc : lC E by' C (k + 1) = lC E by' C k := by
          show (if E k = 540 then _ else _) = _
          rw [if_pos d3]
        refine wp_if (fun _ => ?_) (fun c => absurd (by rw [d3]; decide) c)
        exact h48 y2 (by rw [elc]; exact c1)
      · have elc : lC E by' C (k + 1) = uz (lC E by' C k) (E k / 9).toNat (lC E by' C k (E k / 9).toNat + by') := by
          show (if E k = 540 then _ else _) = _
          rw [if_neg d3]
        refine wp_if (fun c => absurd c (by omega)) (fun _ => wp_gd (by omega) (wp_gd (by omega) (wp_gd (by omega) (wp_vl ?_))))
        exact h48 _ (by rw [elc, c1])
  · rintro ⟨t2, y1, y2, y3⟩ hu
    have h1 : y2 = _ := hu.1
    have h2 : y3 = _ := hu.2
    rw [h1, h2]
    exact wp_some rfl
/-- the book when a line was learnt -/
def upL (B : Nat → Nat → Int) (c q : Nat → Int) : Nat → Nat → Int := upB (upB B 8 c) 15 q
theorem GD_learn {k P : Nat} (hP : P ≤ 36) (hk : k ≤ 600) {B : Nat → Nat → Int} {sc sc' E : Nat → Int} {by' : Int} (hb : -1 ≤ by' ∧ by' ≤ 1) (h : GD k B sc) (hsc : SCx (B 14) (lP (B 6) E by' (B 15) P) sc') : GD (k + 1) (upL B (lC E by' (B 8) P) (lP (B 6) E by' (B 15) P)) sc' := by
  obtain ⟨h1, h2, h3, h4, h5⟩ := h
  have c := fun i => lC_bd (E := E) hb (C := B 8) (M := 36 * (k : Int)) (fun i => (h5 i).1) P i
  have q := fun i => lP_bd (K := B 6) (E := E) hb (Q := B 15) (M := 36 * (k : Int)) (fun i => (h5 i).2) P i
  refine ⟨?_, GW_cg rfl rfl rfl rfl rfl rfl rfl rfl rfl h2, GS_cg rfl h3, SCx_o.mpr hsc, fun i => ?_⟩
  · obtain ⟨b1, b2, b3, b4, b5⟩ := h1
    refine ⟨fun j i a b d => ?_, b2, b3, b4, b5⟩
    unfold upL upB
    by_cases k15 : j = 15
    · rw [if_pos k15]
      have := q i
      omega
    · rw [if_neg k15]
      by_cases k8 : j = 8
      · rw [if_pos k8]
        have := c i
        omega
      · rw [if_neg k8]
        exact b1 j i a b d
  · have c1 := c i
    have q1 := q i
    show (-(36 * ((k + 1 : Nat) : Int)) ≤ lC E by' (B 8) P i ∧ lC E by' (B 8) P i ≤ 36 * ((k + 1 : Nat) : Int)) ∧ (-(36 * ((k + 1 : Nat) : Int)) ≤ lP (B 6) E by' (B 15) P i ∧ lP (B 6) E by' (B 15) P i ≤ 36 * ((k + 1 : Nat) : Int))
    omega
