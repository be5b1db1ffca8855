/-! one sound backwards -/
/-- what pushes got to a place so far: from places ahead of pl, and from pl by its first m spellings -/
def psh (B : Nat → Nat → Int) (t now : Nat → Int) (low : Int) (s pl m q : Nat) (x : Int) : Prop := ∃ (p j : Nat), low ≤ (p : Int) ∧ (p < pl ∨ (p = pl ∧ j < m)) ∧ (j : Int) < B 0 s ∧ q + (B 2 (3 * s + j)).toNat = p ∧ fit B t (3 * s + j) q ∧ now p ≠ 268435456 ∧ x = now p + 16 * prc B t (3 * s + j) q
def PI (B : Nat → Nat → Int) (t now : Nat → Int) (low high : Int) (s pl m : Nat) (x2 x3 : Int) (next : Nat → Int) : Prop :=
  (∀ q : Nat, low - 4 ≤ (q : Int) → (q : Int) < high → Lst (psh B t now low s pl m q) 268435456 (next q)) ∧ (∀ q : Nat, low - 4 ≤ (q : Int) → (q : Int) < high → next q ≠ 268435456 → x2 ≤ q ∧ (q : Int) ≤ x3) ∧ low - 4 ≤ x2 ∧ 0 ≤ x2 ∧ x2 ≤ high ∧ -1 ≤ x3 ∧ x3 < high ∧ ∀ i, inI (next i)
theorem PI.same {B : Nat → Nat → Int} {t now : Nat → Int} {low high : Int} {s pl m pl' m' : Nat} {x2 x3 : Int} {next : Nat → Int} (h : PI B t now low high s pl m x2 x3 next) (hS : ∀ q x, psh B t now low s pl' m' q x ↔ psh B t now low s pl m q x) : PI B t now low high s pl' m' x2 x3 next := ⟨fun q h1 h2 => (h.1 q h1 h2).iff (hS q), h.2⟩
theorem psh_no {B : Nat → Nat → Int} {t now : Nat → Int} {low : Int} {s pl m : Nat} (h : ∀ q, q + (B 2 (3 * s + m)).toNat = pl → ¬ fit B t (3 * s + m) q) : ∀ q x, psh B t now low s pl (m + 1) q x ↔ psh B t now low s pl m q x := by
  intro q x
  constructor
  · rintro ⟨p, j, a1, a2, a3, a4, a5, a6, a7⟩
    refine ⟨p, j, a1, ?_, a3, a4, a5, a6, a7⟩
    by_cases hj : p = pl ∧ j = m
    · obtain ⟨rfl, rfl⟩ := hj
      exact absurd a5 (h q a4)
    · omega
  · rintro ⟨p, j, a1, a2, a3⟩
    exact ⟨p, j, a1, by omega, a3⟩
theorem psh_one {B : Nat → Nat → Int} {t now : Nat → Int} {low : Int} {s pl m q0 : Nat} (hl : low ≤ (pl : Int)) (hq : q0 + (B 2 (3 * s + m)).toNat = pl) (hf : fit B t (3 * s + m) q0) (hj : (m : Int) < B 0 s) (hn : now pl ≠ 268435456) : ∀ q x, psh B t now low s pl (m + 1) q x ↔ psh B t now low s pl m q x ∨ (q = q0 ∧ x = now pl + 16 * prc B t (3 * s + m) q0) := by
  intro q x
  constructor
  · rintro ⟨p, j, a1, a2, a3, a4, a5, a6, a7⟩
    by_cases hj : p = pl ∧ j = m
    · obtain ⟨rfl, rfl⟩ := hj
      have hqq : q = q0 := by omega
      subst hqq
      exact Or.inr ⟨rfl, a7⟩
    · exact Or.inl ⟨p, j, a1, by omega, a3, a4, a5, a6, a7⟩
  · rintro (⟨p, j, a1, a2, a3⟩ | ⟨rfl, rfl⟩)
    · exact ⟨p, j, a1, by omega, a3⟩
    · exact ⟨pl, m, hl, Or.inr ⟨rfl, by omega⟩, hj, hq, hf, hn, rfl⟩
theorem PI.push {B : Nat → Nat → Int} {t now : Nat → Int} {low high : Int} {s pl m q0 : Nat} {x2 x3 x2' x3' c : Int} {next next' : Nat → Int} (h : PI B t now low high s pl m x2 x3 next) (hl : low ≤ (pl : Int)) (hq : q0 + (B 2 (3 * s + m)).toNat = pl) (hf : fit B t (3 * s + m) q0) (hj : (m : Int) < B 0 s) (hn : now pl ≠ 268435456) (ec : c = now pl + 16 * prc B t (3 * s + m) q0) (hc : 0 ≤ c ∧ c < 268435456)
    (h' : ∀ q, next' q = if q = q0 then min (next q0) c else next q) (g1 : x2' ≤ x2) (g2 : x3 ≤ x3') (g3 : x2' ≤ q0 ∧ (q0 : Int) ≤ x3') (g4 : low - 4 ≤ x2' ∧ 0 ≤ x2' ∧ x2' ≤ high ∧ -1 ≤ x3' ∧ x3' < high) : PI B t now low high s pl (m + 1) x2' x3' next' := by
  obtain ⟨a1, a2, -, -, -, -, -, a3⟩ := h
  refine ⟨fun q h1 h2 => ?_, fun q h1 h2 h3 => ?_, g4.1, g4.2.1, g4.2.2.1, g4.2.2.2.1, g4.2.2.2.2, fun i => ?_⟩
  · rw [h' q]
    by_cases hqq : q = q0
    · rw [if_pos hqq]
      subst hqq
      refine (a1 q h1 h2).push hc.2 (fun x => ?_)
      rw [psh_one hl hq hf hj hn, ec]
      constructor
      · rintro (z | ⟨_, z⟩)
        · exact Or.inl z
        · exact Or.inr z
      · rintro (z | z)
        · exact Or.inl z
        · exact Or.inr ⟨rfl, z⟩
    · rw [if_neg hqq]
      refine (a1 q h1 h2).iff (fun x => ?_)
      rw [psh_one hl hq hf hj hn]
      constructor
      · rintro (z | ⟨z, _⟩)
        · exact z
        · exact absurd z hqq
      · exact Or.inl
  · rw [h' q] at h3
    by_cases hqq : q = q0
    · subst hqq
      exact g3
    · rw [if_neg hqq] at h3
      have := a2 q h1 h2 h3
      omega
  · rw [h' i]
    by_cases hi : i = q0
    · rw [if_pos hi]
      have := a3 q0
      omega
    · rw [if_neg hi]
      exact a3 i
set_option maxHeartbeats 2000000 in
theorem q_stepIn {B : Nat → Nat → Int} {t : Nat → Int} {Z : Nat → Int → Prop} {ss : List Nat} {now next : Nat → Int} {low high : Int} (hB : GB B) (ht : ∀ k, inI (t k)) (hZ : ∀ q z, Z q z → 0 ≤ z ∧ z < 20000 ∧ q ≤ 36) (hs : ∀ s ∈ ss, s < 50) (hlen : ss.length ≤ 9) (hW : WO B t Z ss now low high) (h0 : 0 ≤ low) (h36 : high ≤ 36) {s pl m : Nat} (hs50 : s < 50) (hpl : low ≤ (pl : Int) ∧ (pl : Int) ≤ high) (hN : ∀ i, inI (now i)) (nA xA : Nat) {x2 x3 x4 x5 x6 x7 : Int} (e5 : x5 = ((3 * s : Nat) : Int) + B 0 s) (e6 : x6 = pl) (e7 : x7 = ((3 * s + m : Nat) : Int)) (hm : (m : Int) ≤ B 0 s) (h : PI B t now low high s pl m x2 x3 next) :
    wp (m_X6_stepBack_78 x2 x3 x4 x5 x6 x7 (B 0) (B 1) (B 2) (B 3) (B 13) t now nA next xA low high) (fun u => (u.1 = 0 → (m : Int) < B 0 s ∧ u.2.2.2.1 = ((3 * s + (m + 1) : Nat) : Int) ∧ PI B t now low high s pl (m + 1) u.2.1 u.2.2.1 u.2.2.2.2) ∧ (u.1 ≠ 0 → PI B t now low high s (pl + 1) 0 u.2.1 u.2.2.1 u.2.2.2.2)) := by
  have hb0 := hB.2.1 s hs50
  have en : x6.toNat = pl := by omega
  have ei : x7.toNat = 3 * s + m := by omega
  obtain ⟨b1, b2, b3, b4, b5, b6, b7, b8⟩ := id h
  unfold m_X6_stepBack_78
  rw [en, ei]
  refine wp_gd (by omega) (wp_gd (by omega) (wp_if (fun c1 => ?_) (fun c1 => ?_)))
  · refine wp_some ⟨fun z => absurd z Nat.one_ne_zero, fun _ => h.same (fun q x => ?_)⟩
    constructor
    · rintro ⟨p, j, a1, a2, a3, a4⟩
      exact ⟨p, j, a1, by omega, a3, a4⟩
    · rintro ⟨p, j, a1, a2, a3, a4⟩
      exact ⟨p, j, a1, by omega, a3, a4⟩
  · refine wp_gd (by omega) (wp_gd (hN _) (wp_if (fun c2 => ?_) (fun c2 => ?_)))
    · refine wp_some ⟨fun z => absurd z Nat.one_ne_zero, fun _ => h.same (fun q x => ?_)⟩
      constructor
      · rintro ⟨p, j, a1, a2, a3, a4, a5, a6, a7⟩
        have hne : p ≠ pl := fun z => a6 (by rw [z]; exact c2)
        exact ⟨p, j, a1, by omega, a3, a4, a5, a6, a7⟩
      · rintro ⟨p, j, a1, a2, a3, a4, a5, a6, a7⟩
        have hne : p ≠ pl := fun z => a6 (by rw [z]; exact c2)
        exact ⟨p, j, a1, by omega, a3, a4, a5, a6, a7⟩
    · have hmlt : (m : Int) < B 0 s := by omega
      obtain ⟨n, hn1, hn2⟩ := hB.2.2.2.1 s m hs50 hmlt
      have hn3 := hn1.1
      have hn4 := hn1.2.1
      have eln : (B 2 (3 * s + m)).toNat = n := by omega
      have hnow : 0 ≤ now pl ∧ now pl < 60000 := by
        have h1 := hW pl (by omega)
        unfold vw at h1
        rw [if_pos hpl] at h1
        have := wkS_bd hB hZ hs hlen (h1.mem c2)
        omega
      refine wp_gd (by omega) (wp_vl (wp_gd (by omega) (wp_if (fun c3 => ?_) (fun c3 => ?_))))
      · refine wp_bind (q_priceAt (i := 3 * s + m) (p := pl - n) hB ht (by omega) (by omega) e7 (by omega)) ?_
        intro r hr
        unfold m_X6_stepBack_130
        rcases hr with ⟨hf, rfl⟩ | ⟨hf, rfl⟩
        · have hpr := prc_bd (i := 3 * s + m) hB (by omega) hf
          have e8 : (x6 - B 2 (3 * s + m)).toNat = pl - n := by omega
          have b8' := b8 (pl - n)
          refine wp_gd (by omega) (wp_if (fun z => absurd z (by omega)) (fun _ => ?_))
          rw [en, e8]
          refine wp_gd (by omega) (wp_gd (by omega) (wp_gd (by omega) (wp_gd b8' (wp_if (fun c4 => ?_) (fun c4 => ?_)))))
          · have hw := b2 (pl - n) (by omega) (by omega) (by omega)
            refine wp_vl (wp_some ⟨fun _ => ⟨hmlt, by show x7 + 1 = _; omega, ?_⟩, fun z => absurd rfl z⟩)
            refine h.push hpl.1 (q0 := pl - n) (by omega) hf hmlt c2 rfl (by omega) (fun q => ?_) (Int.le_refl _) (Int.le_refl _) hw ⟨b3, b4, b5, b6, b7⟩
            show next q = if q = pl - n then min (next (pl - n)) (now pl + 16 * prc B t (3 * s + m) (pl - n)) else next q
            by_cases hq : q = pl - n
            · rw [if_pos hq, hq]
              omega
            · rw [if_neg hq]
          · refine wp_gd (by omega) (wp_gd (by omega) (wp_vl (wp_gd (by omega) (wp_if (fun c5 => ?_) (fun c5 => ?_)))))
            all_goals
              unfold m_X6_stepBack_192
              refine wp_gd (by omega) (wp_gd (by omega) (wp_if (fun c6 => ?_) (fun c6 => ?_)))
            all_goals
              refine wp_vl (wp_some ⟨fun _ => ⟨hmlt, by show x7 + 1 = _; omega, ?_⟩, fun z => absurd rfl z⟩)
              refine h.push hpl.1 (q0 := pl - n) (by omega) hf hmlt c2 rfl (by omega) (fun q => ?_) ?_ ?_ ?_ ?_
              · show uz next (pl - n) _ q = _
                by_cases hq : q = pl - n
                · rw [if_pos hq, hq, uz_at]
                  omega
                · rw [if_neg hq, uz_ne _ _ hq]
              all_goals dsimp only
              all_goals omega
        · refine wp_gd (by decide) (wp_if (fun _ => ?_) (fun z => absurd rfl z))
          refine wp_vl (wp_some ⟨fun _ => ⟨hmlt, by show x7 + 1 = _; omega, h.same (psh_no (fun q hq => ?_))⟩, fun z => absurd rfl z⟩)
          have : q = pl - n := by omega
          rw [this]
          exact hf
      · unfold m_X6_stepBack_130
        refine wp_gd (by decide) (wp_if (fun _ => ?_) (fun z => absurd rfl z))
        exact wp_vl (wp_some ⟨fun _ => ⟨hmlt, by show x7 + 1 = _; omega, h.same (psh_no (fun q hq => by omega))⟩, fun z => absurd rfl z⟩)
set_option maxHeartbeats 2000000 in
theorem q_stepBack {B : Nat → Nat → Int} {t : Nat → Int} {Z : Nat → Int → Prop} {ss : List Nat} {now next : Nat → Int} {low high : Int} (hB : GB B) (ht : ∀ k, inI (t k)) (hZ : ∀ q z, Z q z → 0 ≤ z ∧ z < 20000 ∧ q ≤ 36) (hs : ∀ s ∈ ss, s < 50) (hlen : ss.length ≤ 9) (hW : WO B t Z ss now low high) (h0 : 0 ≤ low) (h36 : high ≤ 36) (hlh : low ≤ high) {s : Nat} (hs50 : s < 50) (hN : ∀ i, inI (now i)) (hX : ∀ i, inI (next i)) (nA xA : Nat) {x1 : Int} (e1 : x1 = s) :
    wp (m_X6_stepBack x1 (B 0) (B 1) (B 2) (B 3) (B 13) t now nA next xA low high) (fun u => WO B t Z (s :: ss) u.1 u.2.2.2.2.1 u.2.2.2.2.2 ∧ (∀ i, inI (u.1 i)) ∧ (∀ i, inI (u.2.2.1 i)) ∧ 0 ≤ u.2.2.2.2.1 ∧ u.2.2.2.2.1 ≤ 36 ∧ -1 ≤ u.2.2.2.2.2 ∧ u.2.2.2.2.2 ≤ 36) := by
  have hb0 := hB.2.1 s hs50
  have es : x1.toNat = s := by omega
  unfold m_X6_stepBack
  refine wp_gd (by omega) (wp_vl ?_)
  obtain ⟨lo, elo⟩ : ∃ lo : Nat, (lo : Int) = max 0 (low - 4) := ⟨(max 0 (low - 4)).toNat, by omega⟩
  refine wp_bind (P := fun u : Nat × Int × (Nat → Int) => u.2.2 = fz next lo high.toNat 268435456) (wp_loop (fun k a => a.1 = ((lo + k : Nat) : Int) ∧ a.2 = fz next lo (lo + k) 268435456) (high.toNat - lo) (by omega) ⟨by show max 0 (low - 4) = _; omega, (fz_nil next 268435456 (by omega)).symm⟩ ?_) ?_
  · intro k a hk hs2
    obtain ⟨a1, a2⟩ := hs2
    unfold m_X6_stepBack_11
    refine wp_gd (by omega) (wp_gd (by omega) (wp_if (fun c1 => ?_) (fun c1 => ?_)))
    · refine wp_end (by decide) ?_
      show a.2 = _
      rw [a2, show lo + k = high.toNat by omega]
    · refine wp_gd (by omega) (wp_vl (wp_vl (wp_go ⟨by omega, by show a.1 + 1 = _; omega, ?_⟩)))
      show uz a.2 a.1.toNat 268435456 = _
      rw [a2, show a.1.toNat = lo + k by omega, fz_step next 268435456 (by omega)]
      rfl
  · rintro ⟨t11, y2, nx⟩ hnx
    have hnx : nx = fz next lo high.toNat 268435456 := hnx
    subst hnx
    refine wp_vl (wp_gd (by omega) (wp_vl ?_))
    rw [es]
    refine wp_bind (P := fun u : Nat × Int × Int × Int × (Nat → Int) => PI B t now low high s (high.toNat + 1) 0 u.2.1 u.2.2.1 u.2.2.2.2) (wp_loop (fun k a => a.2.2.1 = low + k ∧ PI B t now low high s (low.toNat + k) 0 a.1 a.2.1 a.2.2.2) (high - low + 1).toNat (by omega) ⟨by show low = _; omega, ?_⟩ ?_) ?_
    · refine ⟨fun q h1 h2 => ?_, fun q h1 h2 h3 => absurd (fz_in next 268435456 (show lo ≤ q ∧ q < high.toNat by omega)) h3, by show _ ≤ high; omega, by show 0 ≤ high; omega, Int.le_refl _, Int.le_refl _, by show (-1 : Int) < high; omega, fz_inI hX (by decide)⟩
      show Lst _ 268435456 (fz next lo high.toNat 268435456 q)
      rw [fz_in next 268435456 (by omega)]
      refine Lst.none ?_
      rintro x ⟨p, j, a1, a2, a3, a4⟩
      omega
    · intro k a hk hs2
      obtain ⟨a1, a2⟩ := hs2
      unfold m_X6_stepBack_65
      refine wp_gd (by omega) (wp_gd (by omega) (wp_if (fun c1 => ?_) (fun c1 => ?_)))
      · refine wp_end (by decide) ?_
        show PI B t now low high s (high.toNat + 1) 0 a.1 a.2.1 a.2.2.2
        rw [show high.toNat + 1 = low.toNat + k by omega]
        exact a2
      · refine wp_bind (P := fun u : Nat × Int × Int × Int × (Nat → Int) => PI B t now low high s (low.toNat + k + 1) 0 u.2.1 u.2.2.1 u.2.2.2.2) (wp_loop (fun m b => b.2.2.1 = ((3 * s + m : Nat) : Int) ∧ PI B t now low high s (low.toNat + k) m b.1 b.2.1 b.2.2.2) (B 0 s).toNat (by omega) ⟨by show x1 * 3 = _; omega, a2⟩ ?_) ?_
        · intro m b hm hs3
          obtain ⟨d1, d2⟩ := hs3
          refine wp_mono (q_stepIn hB ht hZ hs hlen hW h0 h36 hs50 (pl := low.toNat + k) (m := m) (by omega) hN nA xA (by omega) (by omega) d1 (by omega) d2) ?_
          intro u hu
          refine ⟨fun z => ?_, hu.2⟩
          obtain ⟨f1, f2, f3⟩ := hu.1 z
          exact ⟨by omega, f2, f3⟩
        · rintro ⟨t78, y2', y3', y7', nx'⟩ hu
          refine wp_vl (wp_go ⟨by omega, by show a.2.2.1 + 1 = _; omega, ?_⟩)
          exact hu
    · rintro ⟨t65, z2, z3, z6, nx'⟩ hu
      have hu : PI B t now low high s (high.toNat + 1) 0 z2 z3 nx' := hu
      obtain ⟨b1, b2, b3, b4, b5, b6, b7, b8⟩ := hu
      refine wp_some ⟨?_, b8, hN, b4, by show z2 ≤ 36; omega, b6, by show z3 ≤ 36; omega⟩
      show WO B t Z (s :: ss) nx' z2 z3
      intro q hq
      by_cases hr : low - 4 ≤ (q : Int) ∧ (q : Int) < high
      · have hL : Lst (wkS B t Z (s :: ss) q) 268435456 (nx' q) := by
          refine (b1 q hr.1 hr.2).dom ?_ ?_
          · rintro x ⟨p, j, a1, a2, a3, a4, a5, a6, a7⟩
            refine wkS_cons.mpr ⟨j, now p, a3, a5, ?_, by omega⟩
            rw [a4]
            have h1 := hW p (by omega)
            unfold vw at h1
            rw [if_pos (by omega)] at h1
            exact h1.mem a6
          · intro x hx
            obtain ⟨j, y, a1, a2, a3, a4⟩ := wkS_cons.mp hx
            have hbd := wkS_bd hB hZ hs hlen a3
            have h1 := (hW _ hbd.2.2).le a3
            unfold vw at h1
            by_cases hw : low ≤ ((q + (B 2 (3 * s + j)).toNat : Nat) : Int) ∧ ((q + (B 2 (3 * s + j)).toNat : Nat) : Int) ≤ high
            · rw [if_pos hw] at h1
              exact ⟨_, ⟨q + (B 2 (3 * s + j)).toNat, j, hw.1, by omega, a1, rfl, a2, by omega, rfl⟩, by omega⟩
            · rw [if_neg hw] at h1
              omega
        unfold vw
        by_cases hw : z2 ≤ (q : Int) ∧ (q : Int) ≤ z3
        · rw [if_pos hw]
          exact hL
        · rw [if_neg hw]
          have : nx' q = 268435456 := by
            by_cases h9 : nx' q = 268435456
            · exact h9
            · exact absurd (b2 q hr.1 hr.2 h9) hw
          rw [this] at hL
          exact hL
      · have hv : vw nx' z2 z3 q = 268435456 := by
          unfold vw
          rw [if_neg (by omega)]
        rw [hv]
        refine Lst.none ?_
        intro x hx
        obtain ⟨j, y, a1, a2, a3, a4⟩ := wkS_cons.mp hx
        have hbd := wkS_bd hB hZ hs hlen a3
        have h1 := (hW _ hbd.2.2).le a3
        obtain ⟨n, hn1, hn2⟩ := hB.2.2.2.1 s j hs50 a1
        have hn3 := hn1.1
        have hn4 := hn1.2.1
        unfold vw at h1
        by_cases hw : low ≤ ((q + (B 2 (3 * s + j)).toNat : Nat) : Int) ∧ ((q + (B 2 (3 * s + j)).toNat : Nat) : Int) ≤ high
        · omega
        · rw [if_neg hw] at h1
          omega
