/-! rules for pictures -/
def wp {α : Type} (o : Option α) (Q : α → Prop) : Prop := ∃ a, o = some a ∧ Q a
theorem wp_some {α : Type} {a : α} {Q : α → Prop} (h : Q a) : wp (some a) Q := ⟨a, rfl, h⟩
theorem wp_gd {α : Type} {c : Prop} [Decidable c] {k : Option α} {Q : α → Prop} (hc : c) (h : wp k Q) : wp (gd c k) Q := by
  unfold gd
  rw [if_pos hc]
  exact h
theorem wp_vl {α β : Type} {e : α} {k : α → Option β} {Q : β → Prop} (h : wp (k e) Q) : wp (vl e k) Q := h
theorem wp_bind {α β : Type} {o : Option α} {k : α → Option β} {P : α → Prop} {Q : β → Prop} (h : wp o P) (hk : ∀ a, P a → wp (k a) Q) : wp (o.bind k) Q := by
  obtain ⟨a, e, hp⟩ := h
  rw [e]
  exact hk a hp
theorem wp_if {α : Type} {c : Prop} [Decidable c] {a b : Option α} {Q : α → Prop} (h1 : c → wp a Q) (h2 : ¬ c → wp b Q) : wp (if c then a else b) Q := by
  by_cases h : c
  · rw [if_pos h]
    exact h1 h
  · rw [if_neg h]
    exact h2 h
theorem wp_mono {α : Type} {o : Option α} {P Q : α → Prop} (h : wp o P) (hq : ∀ a, P a → Q a) : wp o Q := by
  obtain ⟨a, e, hp⟩ := h
  exact ⟨a, e, hq a hp⟩
theorem wp_eq {α β : Type} {o : Option α} {a : α} {k : α → Option β} {Q : β → Prop} (h : o = some a) (hk : wp (k a) Q) : wp (o.bind k) Q := by
  rw [h]
  exact hk
theorem wp_of {α : Type} {o : Option α} {a : α} {Q : α → Prop} (h : o = some a) (hq : Q a) : wp o Q := ⟨a, h, hq⟩
theorem wp_go {α : Type} {A K : Nat × α → Prop} {a : α} (h : A (0, a)) : wp (some (0, a)) (fun u : Nat × α => (u.1 = 0 → A u) ∧ (u.1 ≠ 0 → K u)) := wp_some ⟨fun _ => h, fun z => absurd rfl z⟩
theorem wp_end {α : Type} {A K : Nat × α → Prop} {t : Nat} {a : α} (ht : t ≠ 0) (h : K (t, a)) : wp (some (t, a)) (fun u : Nat × α => (u.1 = 0 → A u) ∧ (u.1 ≠ 0 → K u)) := wp_some ⟨fun z => absurd z ht, fun _ => h⟩
theorem wp_for {α : Type} {body : α → Option (Nat × α)} {K : Nat × α → Prop} (St : Nat → α → Prop) (N : Nat) (hs : ∀ k a, k ≤ N → St k a → wp (body a) (fun u : Nat × α => (u.1 = 0 → k < N ∧ St (k + 1) u.2) ∧ (u.1 ≠ 0 → K u))) : ∀ (n : Nat) (k : Nat) (a : α), k ≤ N → St k a → N - k < n → wp (zloop body n a) K := by
  intro n
  induction n with
  | zero =>
    intro k a _ _ h
    omega
  | succ n ih =>
    intro k a hk hst hn
    obtain ⟨u, hu, h0, h1⟩ := hs k a hk hst
    show wp ((body a).bind fun u => if u.1 = 0 then zloop body n u.2 else some u) K
    rw [hu]
    show wp (if u.1 = 0 then zloop body n u.2 else some u) K
    by_cases h : u.1 = 0
    · rw [if_pos h]
      have h2 := h0 h
      exact ih (k + 1) u.2 h2.1 h2.2 (by omega)
    · rw [if_neg h]
      exact ⟨u, rfl, h1 h⟩
theorem wp_loop {α : Type} {body : α → Option (Nat × α)} {K : Nat × α → Prop} {a : α} (St : Nat → α → Prop) (N : Nat) (hN : N < 5000) (h0 : St 0 a) (hs : ∀ k a, k ≤ N → St k a → wp (body a) (fun u : Nat × α => (u.1 = 0 → k < N ∧ St (k + 1) u.2) ∧ (u.1 ≠ 0 → K u))) : wp (zloop body FU a) K :=
  wp_for St N hs FU 0 a (Nat.zero_le _) h0 (by unfold FU; omega)
theorem uz_at (f : Nat → Int) (k : Nat) (x : Int) : uz f k x k = x := by
  unfold uz
  rw [if_pos rfl]
theorem uz_ne (f : Nat → Int) {k j : Nat} (x : Int) (h : j ≠ k) : uz f k x j = f j := by
  unfold uz
  rw [if_neg h]
theorem uz_inI {f : Nat → Int} {k : Nat} {x : Int} (hf : ∀ i, inI (f i)) (hx : inI x) : ∀ i, inI (uz f k x i) := by
  intro i
  unfold uz
  by_cases h : i = k
  · rw [if_pos h]
    exact hx
  · rw [if_neg h]
    exact hf i
/-- a stretch of a row filled with one number -/
def fz (f : Nat → Int) (a b : Nat) (v : Int) : Nat → Int := fun k => if a ≤ k ∧ k < b then v else f k
theorem fz_in (f : Nat → Int) {a b k : Nat} (v : Int) (h : a ≤ k ∧ k < b) : fz f a b v k = v := by
  unfold fz
  rw [if_pos h]
theorem fz_out (f : Nat → Int) {a b k : Nat} (v : Int) (h : ¬ (a ≤ k ∧ k < b)) : fz f a b v k = f k := by
  unfold fz
  rw [if_neg h]
theorem fz_nil (f : Nat → Int) {a b : Nat} (v : Int) (h : b ≤ a) : fz f a b v = f := by
  funext k
  exact fz_out f v (by omega)
theorem fz_step (f : Nat → Int) {a b : Nat} (v : Int) (h : a ≤ b) : uz (fz f a b v) b v = fz f a (b + 1) v := by
  funext k
  unfold uz fz
  by_cases h1 : k = b
  · rw [if_pos h1, if_pos (by omega)]
  · rw [if_neg h1]
    by_cases h2 : a ≤ k ∧ k < b
    · rw [if_pos h2, if_pos (by omega)]
    · rw [if_neg h2, if_neg (by omega)]
theorem fz_inI {f : Nat → Int} {a b : Nat} {x : Int} (hf : ∀ i, inI (f i)) (hx : inI x) : ∀ i, inI (fz f a b x i) := by
  intro i
  unfold fz
  by_cases h : a ≤ i ∧ i < b
  · rw [if_pos h]
    exact hx
  · rw [if_neg h]
    exact hf i
theorem q_fillRange {x1 x2 v : Int} {g : Nat → Int} {n : Nat} (h0 : 0 ≤ x1) (h1 : x1 ≤ x2) (h2 : x2 ≤ (n : Int)) (hn : n < 6000 ∧ x2 - x1 < 5000) : m_X8_fillRange x1 x2 v g n = some (fz g x1.toNat x2.toNat v) := by
  have h : wp (m_X8_fillRange x1 x2 v g n) (fun r => r = fz g x1.toNat x2.toNat v) := by
    unfold m_X8_fillRange
    refine wp_bind (P := fun u => u.2.2 = fz g x1.toNat x2.toNat v) (wp_loop (fun k a => a.1 = x1 + k ∧ a.2 = fz g x1.toNat (x1.toNat + k) v) (x2 - x1).toNat (by omega) ?_ ?_) ?_
    · exact ⟨by simp, (fz_nil g v (by omega)).symm⟩
    · intro k a hk hs
      obtain ⟨e1, e2⟩ := hs
      unfold m_X8_fillRange_3
      refine wp_gd (by omega) (wp_gd (by omega) (wp_if (fun h3 => ?_) (fun h3 => ?_)))
      · refine wp_end (by decide) ?_
        show a.2 = _
        rw [e2, show x1.toNat + k = x2.toNat by omega]
      · refine wp_gd (by omega) (wp_vl (wp_vl (wp_go ⟨by omega, ?_, ?_⟩)))
        · show a.1 + 1 = _
          omega
        · show uz a.2 a.1.toNat v = _
          rw [e2, show a.1.toNat = x1.toNat + k by omega, fz_step g v (by omega)]
          rfl
    · intro u hu
      exact wp_some hu
  obtain ⟨r, e, hr⟩ := h
  rw [e, hr]
theorem q_fill {v : Int} {g : Nat → Int} {n : Nat} (hn : n < 5000) : m_J7_fill_53178 v g n = some (fz g 0 n v) := by
  have h : wp (m_J7_fill_53178 v g n) (fun r => r = fz g 0 n v) := by
    unfold m_J7_fill_53178
    refine wp_vl (wp_bind (P := fun u => u.2.2 = fz g 0 n v) (wp_loop (fun k a => a.1 = k ∧ a.2 = fz g 0 k v) n (by omega) ?_ ?_) ?_)
    · exact ⟨by simp, (fz_nil g v (by omega)).symm⟩
    · intro k a hk hs
      obtain ⟨e1, e2⟩ := hs
      unfold m_J7_fill_53178_5
      refine wp_gd (by omega) (wp_gd (by omega) (wp_if (fun h3 => ?_) (fun h3 => ?_)))
      · refine wp_end (by decide) ?_
        show a.2 = _
        rw [e2, show k = n by omega]
      · refine wp_gd (by omega) (wp_vl (wp_vl (wp_go ⟨by omega, ?_, ?_⟩)))
        · show a.1 + 1 = _
          omega
        · show uz a.2 a.1.toNat v = _
          rw [e2, show a.1.toNat = k by omega, fz_step g v (by omega)]
    · intro u hu
      exact wp_some hu
  obtain ⟨r, e, hr⟩ := h
  rw [e, hr]
