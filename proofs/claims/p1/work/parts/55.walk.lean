/-! a row of sounds backwards -/
def sn (r : Int) (i : Nat) : Nat := (pz 6 r i - 1).toNat
def pfx (r : Int) : Nat → List Nat
  | 0 => []
  | m + 1 => pfx r m ++ [sn r m]
def sfx (r : Int) (n : Nat) : Nat → List Nat
  | 0 => []
  | m + 1 => sn r (n - (m + 1)) :: sfx r n m
theorem pfx_sfx (r : Int) (n : Nat) : ∀ m, m ≤ n → pfx r (n - m) ++ sfx r n m = pfx r n := by
  intro m
  induction m with
  | zero =>
    intro _
    show pfx r n ++ [] = _
    rw [List.append_nil]
  | succ m ih =>
    intro hm
    rw [← ih (by omega), show n - m = (n - (m + 1)) + 1 by omega]
    show pfx r (n - (m + 1)) ++ (sn r (n - (m + 1)) :: sfx r n m) = (pfx r (n - (m + 1)) ++ [sn r (n - (m + 1))]) ++ sfx r n m
    rw [List.append_assoc]
    rfl
theorem sfx_all (r : Int) (n : Nat) : sfx r n n = pfx r n := by
  have h := pfx_sfx r n n (Nat.le_refl n)
  rw [Nat.sub_self] at h
  exact h
theorem pfx_len (r : Int) : ∀ m, (pfx r m).length = m := by
  intro m
  induction m with
  | zero => rfl
  | succ m ih =>
    show (pfx r m ++ [sn r m]).length = m + 1
    rw [List.length_append, ih]
    rfl
theorem sfx_len (r : Int) (n : Nat) : ∀ m, (sfx r n m).length = m := by
  intro m
  induction m with
  | zero => rfl
  | succ m ih =>
    show (sfx r n m).length + 1 = m + 1
    rw [ih]
theorem pfx_lt {most : Nat} {r : Int} {n : Nat} (h : isR 6 most 50 r n) : ∀ m, m ≤ n → ∀ s ∈ pfx r m, s < 50 := by
  intro m
  induction m with
  | zero =>
    intro _ s hs
    cases hs
  | succ m ih =>
    intro hm s hs
    rcases List.mem_append.mp hs with h1 | h1
    · exact ih (by omega) s h1
    · have h2 := h.2.2.2.1 m (by omega)
      have : s = sn r m := List.mem_singleton.mp h1
      rw [this]
      unfold sn
      omega
theorem sfx_lt {most : Nat} {r : Int} {n : Nat} (h : isR 6 most 50 r n) (m : Nat) (hm : m ≤ n) : ∀ s ∈ sfx r n m, s < 50 := by
  intro s hs
  refine pfx_lt h n (Nat.le_refl n) s ?_
  rw [← pfx_sfx r n m hm]
  exact List.mem_append_right _ hs
theorem wkS_le {B : Nat → Nat → Int} {t : Nat → Int} {Z : Nat → Int → Prop} (hB : GB B) (hZ : ∀ q z, Z q z → 0 ≤ z ∧ z < 20000 ∧ q ≤ 36) {ss : List Nat} (hs : ∀ s ∈ ss, s < 50) {p : Nat} {x : Int} (h : wkS B t Z ss p x) : p ≤ 36 := by
  obtain ⟨q, y, z, h1, h2, rfl⟩ := h
  have := spR_bd hB ss hs _ _ _ h1
  have := hZ q z h2
  omega
theorem wkS_dead {B : Nat → Nat → Int} {t : Nat → Int} {Z : Nat → Int → Prop} {ss : List Nat} (h : ∀ p x, ¬ wkS B t Z ss p x) : ∀ (ss' : List Nat) (p : Nat) (x : Int), ¬ wkS B t Z (ss' ++ ss) p x := by
  intro ss'
  induction ss' with
  | nil => exact h
  | cons s ss' ih =>
    intro p x hx
    obtain ⟨j, y, _, _, h3, _⟩ := wkS_cons.mp hx
    exact ih _ _ h3
theorem WO.dead {B : Nat → Nat → Int} {t : Nat → Int} {Z : Nat → Int → Prop} (hB : GB B) (hZ : ∀ q z, Z q z → 0 ≤ z ∧ z < 20000 ∧ q ≤ 36) {ss : List Nat} (hs : ∀ s ∈ ss, s < 50) {now : Nat → Int} {low high : Int} (h : WO B t Z ss now low high) (hd : high < low) (ss' : List Nat) : WO B t Z (ss' ++ ss) now low high := by
  have hv : ∀ p : Nat, vw now low high p = 268435456 := by
    intro p
    unfold vw
    rw [if_neg (by omega)]
  have hno : ∀ p x, ¬ wkS B t Z ss p x := by
    intro p x hx
    have h1 := h p (wkS_le hB hZ hs hx)
    rw [hv p] at h1
    exact h1.no x hx
  intro p _
  rw [hv p]
  exact Lst.none (wkS_dead hno ss' p)
/-- the walker's rows and bounds are in their ranges -/
def spOk (now next : Nat → Int) (low high : Int) : Prop := (∀ i, inI (now i)) ∧ (∀ i, inI (next i)) ∧ 0 ≤ low ∧ low ≤ 36 ∧ -1 ≤ high ∧ high ≤ 36
set_option maxHeartbeats 2000000 in
theorem q_walkBack {B : Nat → Nat → Int} {t : Nat → Int} {Z : Nat → Int → Prop} {ss : List Nat} {now next : Nat → Int} {low high r x3 : Int} (hB : GB B) (ht : ∀ k, inI (t k)) (hZ : ∀ q z, Z q z → 0 ≤ z ∧ z < 20000 ∧ q ≤ 36) (hs : ∀ s ∈ ss, s < 50) {most n : Nat} (hmost : most = 6 ∨ most = 3) (e3 : x3 = most) (hr : isR 6 most 50 r n) (hrL : inL r) (hlen : ss.length + n ≤ 9) (hW : WO B t Z ss now low high) (hok : spOk now next low high) (nA xA : Nat) :
    wp (m_X6_walkBack r x3 (B 0) (B 1) (B 2) (B 3) (B 13) t now nA next xA low high) (fun u => WO B t Z (pfx r n ++ ss) u.1 u.2.2.2.2.1 u.2.2.2.2.2 ∧ spOk u.1 u.2.2.1 u.2.2.2.2.1 u.2.2.2.2.2) := by
  unfold m_X6_walkBack
  have hnm := hr.2.1
  refine wp_vl (wp_bind (P := fun u : Nat × Int × (Nat → Int) × Nat × (Nat → Int) × Nat × Int × Int => WO B t Z (pfx r n ++ ss) u.2.2.1 u.2.2.2.2.2.2.1 u.2.2.2.2.2.2.2 ∧ spOk u.2.2.1 u.2.2.2.2.1 u.2.2.2.2.2.2.1 u.2.2.2.2.2.2.2) (wp_loop (fun k a => a.1 = (most : Int) - 1 - k ∧ WO B t Z (sfx r n (n - (most - k)) ++ ss) a.2.1 a.2.2.2.2.2.1 a.2.2.2.2.2.2 ∧ spOk a.2.1 a.2.2.2.1 a.2.2.2.2.2.1 a.2.2.2.2.2.2) most (by omega) ⟨by show x3 - 1 = _; omega, ?_, hok⟩ ?_) ?_)
  · show WO B t Z (sfx r n (n - (most - 0)) ++ ss) now low high
    rw [show n - (most - 0) = 0 by omega]
    exact hW
  · intro k a hk hst
    obtain ⟨e1, hw, ho⟩ := hst
    obtain ⟨o1, o2, o3, o4, o5, o6⟩ := id ho
    unfold m_X6_walkBack_5
    refine wp_gd (by omega) (wp_if (fun c1 => ?_) (fun c1 => ?_))
    · refine wp_end (by decide) ⟨?_, ho⟩
      have hk2 : k = most := by omega
      rw [hk2, show n - (most - most) = n by omega, sfx_all] at hw
      exact hw
    · refine wp_gd (by omega) (wp_gd (by omega) (wp_if (fun c2 => ?_) (fun c2 => ?_)))
      · refine wp_end (by decide) ⟨?_, ho⟩
        have hm : n - (most - k) ≤ n := by omega
        have h1 := hw.dead hB hZ (fun s h => (List.mem_append.mp h).elim (sfx_lt hr _ hm s) (hs s)) c2 (pfx r (n - (n - (most - k))))
        rw [← List.append_assoc, pfx_sfx r n _ hm] at h1
        exact h1
      · obtain ⟨i, ei⟩ : ∃ i : Nat, i = most - 1 - k := ⟨_, rfl⟩
        have e6 : (a.1 * 6).toNat = 6 * i := by omega
        have hz : zland (r / 2 ^ (6 * i)) 63 = pz 6 r i := zl_andm _ 6 63 (by decide) (by decide)
        have hp0 := pz_nonneg 6 r i
        have hp1 := pz_lt 6 r i
        have h64 : (2 : Int) ^ 6 = 64 := by decide
        rw [e6, hz]
        refine wp_gd hrL (wp_gd (by omega) (wp_vl (wp_gd (by omega) (wp_if (fun c3 => ?_) (fun c3 => ?_)))))
        · have hin : n ≤ i := by
            by_cases h9 : n ≤ i
            · exact h9
            · have := (hr.2.2.2.1 i (by omega)).1
              omega
          refine wp_vl (wp_go ⟨by omega, by show a.1 + -1 = _; omega, ?_, ho⟩)
          rw [show n - (most - (k + 1)) = n - (most - k) by omega]
          exact hw
        · have hin : i < n := by
            by_cases h9 : i < n
            · exact h9
            · have := pz_none hr.2.2.2.2 (show n ≤ i by omega)
              omega
          have hp2 := (hr.2.2.2.1 i hin).2
          have hm : n - (most - k) ≤ n := by omega
          refine wp_bind (q_stepBack (s := sn r i) hB ht hZ (fun s h => (List.mem_append.mp h).elim (sfx_lt hr _ hm s) (hs s)) (by rw [List.length_append, sfx_len]; omega) hw o3 o6 (by omega) (by unfold sn; omega) o1 o2 _ _ (by unfold sn; omega)) ?_
          rintro ⟨n1, n1A, n2, n2A, lo, hi⟩ ⟨g1, g2, g3, g4, g5, g6, g7⟩
          refine wp_vl (wp_go ⟨by omega, by show a.1 + -1 = _; omega, ?_, g2, g3, g4, g5, g6, g7⟩)
          have e9 : n - (most - (k + 1)) = (n - (most - k)) + 1 := by omega
          rw [e9]
          show WO B t Z (sn r (n - (n - (most - k) + 1)) :: (sfx r n (n - (most - k)) ++ ss)) n1 lo hi
          rw [show n - (n - (most - k) + 1) = i by omega]
          exact g1
  · rintro ⟨t5, x4, n1, n1A, n2, n2A, lo, hi⟩ hu
    exact wp_some hu
