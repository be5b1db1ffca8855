/-! acts on the line and the hand, on both sides -/
theorem uz_inT {f : Nat → Int} {k : Nat} {x : Int} (hf : ∀ i, inT (f i)) (hx : inT x) : ∀ i, inT (uz f k x i) := by
  intro i
  unfold uz
  by_cases h : i = k
  · rw [if_pos h]
    exact hx
  · rw [if_neg h]
    exact hf i
theorem z_typed {t : Nat → Int} {n : Nat} (hn : n ≤ 36) (ht : ∀ i, inI (t i)) {x1 : Int} (h1 : inI x1) (code : Int) : ∃ cd rv rv' : Int, ANS cd rv rv' ∧ m_X8_typed x1 n t = some (cd, rv) ∧ m_X9_typed x1 code n t = some (rv', cd) := by
  by_cases c1 : x1 = -1
  · refine ⟨0, n, n, Or.inr ⟨rfl, rfl, by omega⟩, ?_, ?_⟩
    · apply wp_out
      unfold m_X8_typed
      ((repeat' first | with_reducible refine wp_gd ?_ ?_ | with_reducible refine wp_vl ?_ | with_reducible refine wp_if (fun _ => ?_) (fun _ => ?_) | (with_reducible refine wp_eq rfl ?_; try dsimp only)) <;> first | omega | exact wp_some rfl)
    · apply wp_out
      unfold m_X9_typed m_X9_typed_29 m_X9_fail
      ((repeat' first | with_reducible refine wp_gd ?_ ?_ | with_reducible refine wp_vl ?_ | with_reducible refine wp_if (fun _ => ?_) (fun _ => ?_) | (with_reducible refine wp_eq rfl ?_; try dsimp only)) <;> first | omega | exact wp_some rfl)
  · by_cases c2 : 0 ≤ x1 ∧ x1 < n
    · refine ⟨0, t x1.toNat, t x1.toNat, Or.inr ⟨rfl, rfl, ht _⟩, ?_, ?_⟩
      · apply wp_out
        unfold m_X8_typed
        ((repeat' first | with_reducible refine wp_gd ?_ ?_ | with_reducible refine wp_vl ?_ | with_reducible refine wp_if (fun _ => ?_) (fun _ => ?_) | (with_reducible refine wp_eq rfl ?_; try dsimp only)) <;> first | omega | exact wp_some rfl)
      · apply wp_out
        unfold m_X9_typed m_X9_typed_29 m_X9_fail
        ((repeat' first | with_reducible refine wp_gd ?_ ?_ | with_reducible refine wp_vl ?_ | with_reducible refine wp_if (fun _ => ?_) (fun _ => ?_) | (with_reducible refine wp_eq rfl ?_; try dsimp only)) <;> first | omega | exact wp_some rfl)
    · refine ⟨1, 0, 0, Or.inl rfl, ?_, ?_⟩
      · apply wp_out
        unfold m_X8_typed
        ((repeat' first | with_reducible refine wp_gd ?_ ?_ | with_reducible refine wp_vl ?_ | with_reducible refine wp_if (fun _ => ?_) (fun _ => ?_) | (with_reducible refine wp_eq rfl ?_; try dsimp only)) <;> first | omega | exact wp_some rfl)
      · apply wp_out
        unfold m_X9_typed m_X9_typed_29 m_X9_fail
        ((repeat' first | with_reducible refine wp_gd ?_ ?_ | with_reducible refine wp_vl ?_ | with_reducible refine wp_if (fun _ => ?_) (fun _ => ?_) | (with_reducible refine wp_eq rfl ?_; try dsimp only)) <;> first | omega | exact wp_some rfl)
theorem z_count {B : Nat → Nat → Int} (hB : GB B) (hW : GW B) {x1 : Int} (h1 : inI x1) (code : Int) : ∃ cd rv rv' : Int, ANS cd rv rv' ∧ m_X8_count x1 (B 18 0) (B 8) = some (cd, rv) ∧ m_X9_count x1 code (B 8) (B 18 0) = some (rv', cd) := by
  have hw := hW.1
  by_cases c2 : 0 ≤ x1 ∧ x1 < B 18 0
  · refine ⟨0, B 8 x1.toNat, B 8 x1.toNat, Or.inr ⟨rfl, rfl, hB.1 8 _ (by decide) (by decide) (by decide)⟩, ?_, ?_⟩
    · apply wp_out
      unfold m_X8_count
      ((repeat' first | with_reducible refine wp_gd ?_ ?_ | with_reducible refine wp_vl ?_ | with_reducible refine wp_if (fun _ => ?_) (fun _ => ?_) | (with_reducible refine wp_eq rfl ?_; try dsimp only)) <;> first | omega | exact wp_some rfl)
    · apply wp_out
      unfold m_X9_count m_X9_count_17 m_X9_fail
      ((repeat' first | with_reducible refine wp_gd ?_ ?_ | with_reducible refine wp_vl ?_ | with_reducible refine wp_if (fun _ => ?_) (fun _ => ?_) | (with_reducible refine wp_eq rfl ?_; try dsimp only)) <;> first | omega | exact wp_some rfl)
  · refine ⟨1, 0, 0, Or.inl rfl, ?_, ?_⟩
    · apply wp_out
      unfold m_X8_count
      ((repeat' first | with_reducible refine wp_gd ?_ ?_ | with_reducible refine wp_vl ?_ | with_reducible refine wp_if (fun _ => ?_) (fun _ => ?_) | (with_reducible refine wp_eq rfl ?_; try dsimp only)) <;> first | omega | exact wp_some rfl)
    · apply wp_out
      unfold m_X9_count m_X9_count_17 m_X9_fail
      ((repeat' first | with_reducible refine wp_gd ?_ ?_ | with_reducible refine wp_vl ?_ | with_reducible refine wp_if (fun _ => ?_) (fun _ => ?_) | (with_reducible refine wp_eq rfl ?_; try dsimp only)) <;> first | omega | exact wp_some rfl)
theorem z_pairs {B : Nat → Nat → Int} (hB : GB B) {x1 x2 : Int} (h1 : inI x1) (h2 : inI x2) (code : Int) : ∃ cd rv rv' : Int, ANS cd rv rv' ∧ m_X8_pairs x1 x2 (B 15) = some (cd, rv) ∧ m_X9_pairs x1 x2 code (B 15) = some (rv', cd) := by
  obtain ⟨v, ev, hv⟩ := q_areKinds h1 h2
  by_cases c2 : 0 ≤ x1 ∧ x1 < 9 ∧ 0 ≤ x2 ∧ x2 < 9
  · have e2 : (9 * x1 + x2).toNat = (x1 * 9 + x2).toNat := by omega
    refine ⟨0, B 15 (x1 * 9 + x2).toNat, B 15 (x1 * 9 + x2).toNat, Or.inr ⟨rfl, rfl, hB.1 15 _ (by decide) (by decide) (by decide)⟩, ?_, ?_⟩
    · apply wp_out
      unfold m_X8_pairs
      rw [ev]
      ((repeat' first | with_reducible refine wp_gd ?_ ?_ | with_reducible refine wp_vl ?_ | with_reducible refine wp_if (fun _ => ?_) (fun _ => ?_) | (with_reducible refine wp_eq rfl ?_; try dsimp only)) <;> first | omega | exact wp_some rfl)
    · apply wp_out
      unfold m_X9_pairs m_X9_pairs_25 m_X9_fail
      rw [e2]
      ((repeat' first | with_reducible refine wp_gd ?_ ?_ | with_reducible refine wp_vl ?_ | with_reducible refine wp_if (fun _ => ?_) (fun _ => ?_) | (with_reducible refine wp_eq rfl ?_; try dsimp only)) <;> first | omega | exact wp_some rfl)
  · refine ⟨1, 0, 0, Or.inl rfl, ?_, ?_⟩
    · apply wp_out
      unfold m_X8_pairs
      rw [ev]
      ((repeat' first | with_reducible refine wp_gd ?_ ?_ | with_reducible refine wp_vl ?_ | with_reducible refine wp_if (fun _ => ?_) (fun _ => ?_) | (with_reducible refine wp_eq rfl ?_; try dsimp only)) <;> first | omega | exact wp_some rfl)
    · apply wp_out
      unfold m_X9_pairs m_X9_pairs_25 m_X9_fail
      ((repeat' first | with_reducible refine wp_gd ?_ ?_ | with_reducible refine wp_vl ?_ | with_reducible refine wp_if (fun _ => ?_) (fun _ => ?_) | (with_reducible refine wp_eq rfl ?_; try dsimp only)) <;> first | omega | exact wp_some rfl)
theorem z_about {B : Nat → Nat → Int} (hB : GB B) (hW : GW B) {n fm kp K : Nat} (hn : n ≤ 36) (hkp : kp ≤ 80) (hK : K ≤ 40) {r : r4} (hF : FX B n fm r.1 r.2.1 r.2.2.1 r.2.2.2) {x1 : Int} (h1 : inI x1) (code : Int) : ∃ cd rv rv' : Int, ANS cd rv rv' ∧ m_X8_about x1 kp (B 18 0) (B 18 1) (B 19) K = some (cd, rv) ∧ m_X9_about x1 code (B 18 0) (B 18 1) fm kp K = some (rv', cd) := by
  have hw := hW.1
  have he := hW.2.1
  have hfm := hF.1
  have hc := q_fixedParts (fx := B 19) (fun i => hB.1 19 i (by decide) (by decide) (by decide))
  rw [FX_cnt hn hF] at hc
  by_cases c0 : x1 = 0
  · refine ⟨0, B 18 0, B 18 0, Or.inr ⟨rfl, rfl, by omega⟩, ?_, ?_⟩
    · apply wp_out
      unfold m_X8_about
      rw [hc]
      ((repeat' first | with_reducible refine wp_gd ?_ ?_ | with_reducible refine wp_vl ?_ | with_reducible refine wp_if (fun _ => ?_) (fun _ => ?_) | (with_reducible refine wp_eq rfl ?_; try dsimp only)) <;> first | omega | exact wp_some rfl)
    · apply wp_out
      unfold m_X9_about m_X9_fail
      ((repeat' first | with_reducible refine wp_gd ?_ ?_ | with_reducible refine wp_vl ?_ | with_reducible refine wp_if (fun _ => ?_) (fun _ => ?_) | (with_reducible refine wp_eq rfl ?_; try dsimp only)) <;> first | omega | exact wp_some rfl)
  by_cases c1 : x1 = 1
  · refine ⟨0, B 18 1, B 18 1, Or.inr ⟨rfl, rfl, by omega⟩, ?_, ?_⟩
    · apply wp_out
      unfold m_X8_about
      rw [hc]
      ((repeat' first | with_reducible refine wp_gd ?_ ?_ | with_reducible refine wp_vl ?_ | with_reducible refine wp_if (fun _ => ?_) (fun _ => ?_) | (with_reducible refine wp_eq rfl ?_; try dsimp only)) <;> first | omega | exact wp_some rfl)
    · apply wp_out
      unfold m_X9_about m_X9_fail
      ((repeat' first | with_reducible refine wp_gd ?_ ?_ | with_reducible refine wp_vl ?_ | with_reducible refine wp_if (fun _ => ?_) (fun _ => ?_) | (with_reducible refine wp_eq rfl ?_; try dsimp only)) <;> first | omega | exact wp_some rfl)
  by_cases c2 : x1 = 2
  · refine ⟨0, kp, kp, Or.inr ⟨rfl, rfl, by omega⟩, ?_, ?_⟩
    · apply wp_out
      unfold m_X8_about
      rw [hc]
      ((repeat' first | with_reducible refine wp_gd ?_ ?_ | with_reducible refine wp_vl ?_ | with_reducible refine wp_if (fun _ => ?_) (fun _ => ?_) | (with_reducible refine wp_eq rfl ?_; try dsimp only)) <;> first | omega | exact wp_some rfl)
    · apply wp_out
      unfold m_X9_about m_X9_fail
      ((repeat' first | with_reducible refine wp_gd ?_ ?_ | with_reducible refine wp_vl ?_ | with_reducible refine wp_if (fun _ => ?_) (fun _ => ?_) | (with_reducible refine wp_eq rfl ?_; try dsimp only)) <;> first | omega | exact wp_some rfl)
  by_cases c3 : x1 = 3
  · refine ⟨0, K, K, Or.inr ⟨rfl, rfl, by omega⟩, ?_, ?_⟩
    · apply wp_out
      unfold m_X8_about
      rw [hc]
      ((repeat' first | with_reducible refine wp_gd ?_ ?_ | with_reducible refine wp_vl ?_ | with_reducible refine wp_if (fun _ => ?_) (fun _ => ?_) | (with_reducible refine wp_eq rfl ?_; try dsimp only)) <;> first | omega | exact wp_some rfl)
    · apply wp_out
      unfold m_X9_about m_X9_fail
      ((repeat' first | with_reducible refine wp_gd ?_ ?_ | with_reducible refine wp_vl ?_ | with_reducible refine wp_if (fun _ => ?_) (fun _ => ?_) | (with_reducible refine wp_eq rfl ?_; try dsimp only)) <;> first | omega | exact wp_some rfl)
  by_cases c4 : x1 = 4
  · refine ⟨0, fm, fm, Or.inr ⟨rfl, rfl, by omega⟩, ?_, ?_⟩
    · apply wp_out
      unfold m_X8_about
      rw [hc]
      ((repeat' first | with_reducible refine wp_gd ?_ ?_ | with_reducible refine wp_vl ?_ | with_reducible refine wp_if (fun _ => ?_) (fun _ => ?_) | (with_reducible refine wp_eq rfl ?_; try dsimp only)) <;> first | omega | exact wp_some rfl)
    · apply wp_out
      unfold m_X9_about m_X9_fail
      ((repeat' first | with_reducible refine wp_gd ?_ ?_ | with_reducible refine wp_vl ?_ | with_reducible refine wp_if (fun _ => ?_) (fun _ => ?_) | (with_reducible refine wp_eq rfl ?_; try dsimp only)) <;> first | omega | exact wp_some rfl)
  refine ⟨1, 0, 0, Or.inl rfl, ?_, ?_⟩
  · apply wp_out
    unfold m_X8_about
    rw [hc]
    ((repeat' first | with_reducible refine wp_gd ?_ ?_ | with_reducible refine wp_vl ?_ | with_reducible refine wp_if (fun _ => ?_) (fun _ => ?_) | (with_reducible refine wp_eq rfl ?_; try dsimp only)) <;> first | omega | exact wp_some rfl)
  · apply wp_out
    unfold m_X9_about m_X9_fail
    ((repeat' first | with_reducible refine wp_gd ?_ ?_ | with_reducible refine wp_vl ?_ | with_reducible refine wp_if (fun _ => ?_) (fun _ => ?_) | (with_reducible refine wp_eq rfl ?_; try dsimp only)) <;> first | omega | exact wp_some rfl)
theorem FX_ends {B : Nat → Nat → Int} {n fm : Nat} (hn : n ≤ 36) {fF fT fW fE : Nat → Int} (h : FX B n fm fF fT fW fE) : (∃ i, i < n ∧ B 19 i / 1024 = (n : Int)) ↔ ∃ f, f < fm ∧ fT f = n := by
  obtain ⟨h1, h2, h3, h4⟩ := h
  constructor
  · rintro ⟨i, hi, e⟩
    have h0 : B 19 i ≠ 0 := by
      intro z
      rw [z] at e
      omega
    obtain ⟨f, hf, ef⟩ := h3 i (by omega) h0
    obtain ⟨b1, b2, b3, b4, -⟩ := h2 f hf
    refine ⟨f, hf, ?_⟩
    rw [ef, show Int.toNat (i : Int) = i by omega] at b4
    omega
  · rintro ⟨f, hf, e⟩
    obtain ⟨b1, b2, b3, b4, -⟩ := h2 f hf
    refine ⟨(fF f).toNat, by omega, ?_⟩
    omega
theorem q_append {t br fx : Nat → Int} (hfx : ∀ i, inI (fx i)) {n : Nat} (hn : n < 36) {x1 sl : Int} (es : sl = n) : wp (m_X4_append x1 sl t br fx) (fun u => ∃ v : Int, ((v = 1 ∧ ∃ i, i < n ∧ fx i / 1024 = n) ∨ (v = 0 ∧ ∀ i, i < n → fx i / 1024 ≠ n)) ∧ u = (((n + 1 : Nat) : Int), uz t n x1, uz br n v)) := by
  unfold m_X4_append m_X4_append_34
  rw [show sl.toNat = n by omega]
  refine wp_gd (by omega) (wp_vl (wp_bind (q_fixedEndsAt hfx (by omega) es) (fun v hv => ?_)))
  refine wp_gd (by omega) (wp_if (fun c => ?_) (fun c => ?_))
  · refine wp_gd (by omega) (wp_vl (wp_vl (wp_some ⟨0, ?_, ?_⟩)))
    · rcases hv with hv | hv
      · exact absurd c (by omega)
      · exact Or.inr ⟨rfl, hv.2⟩
    · rw [es]
      rfl
  · refine wp_gd (by omega) (wp_vl (wp_vl (wp_some ⟨1, ?_, ?_⟩)))
    · rcases hv with hv | hv
      · exact Or.inl ⟨rfl, hv.2⟩
      · exact absurd hv.1 c
    · rw [es]
      rfl
set_option maxHeartbeats 1000000 in
theorem z_type {B : Nat → Nat → Int} {t : Nat → Int} {n fm : Nat} {r : r4} {ring : List zSv} {nx kp : Nat} {o : r8} (hB : GB B) (hS : SHT B t n fm r.1 r.2.1 r.2.2.1 r.2.2.2) (hA : ACT B ring nx kp o) {x1 : Int} (h1 : inI x1) (lk lp rk code ir im : Int) :
    (∃ cd rv rv' : Int, ANS cd rv rv' ∧ m_X8_type x1 ring nx kp lk lp rk n t (B 17) (B 19) = some (cd, rv, ring, (nx : Int), (kp : Int), lk, lp, rk, (n : Int), t, B 17) ∧ m_X9_type x1 code n fm t (B 17) r.1 r.2.1 r.2.2.1 r.2.2.2 kp o.1 o.2.1 o.2.2.1 o.2.2.2.1 o.2.2.2.2.1 o.2.2.2.2.2.1 o.2.2.2.2.2.2.1 o.2.2.2.2.2.2.2 ir im = some (rv', cd, (n : Int), t, B 17, (kp : Int), o.1, o.2.1, o.2.2.1, o.2.2.2.1, o.2.2.2.2.1, o.2.2.2.2.2.1, o.2.2.2.2.2.2.1, o.2.2.2.2.2.2.2, ir, im)) ∨
    (∃ (ring' : List zSv) (nx' kp' : Nat) (o' : r8) (v : Int), m_X8_type x1 ring nx kp lk lp rk n t (B 17) (B 19) = some (0, ((n + 1 : Nat) : Int), ring', (nx' : Int), (kp' : Int), 0, -1, 0, ((n + 1 : Nat) : Int), uz t n x1, uz (B 17) n v) ∧ m_X9_type x1 code n fm t (B 17) r.1 r.2.1 r.2.2.1 r.2.2.2 kp o.1 o.2.1 o.2.2.1 o.2.2.2.1 o.2.2.2.2.1 o.2.2.2.2.2.1 o.2.2.2.2.2.2.1 o.2.2.2.2.2.2.2 ir im = some (((n + 1 : Nat) : Int), 0, ((n + 1 : Nat) : Int), uz t n x1, uz (B 17) n v, (kp' : Int), o'.1, o'.2.1, o'.2.2.1, o'.2.2.2.1, o'.2.2.2.2.1, o'.2.2.2.2.2.1, o'.2.2.2.2.2.2.1, o'.2.2.2.2.2.2.2, 0, 0) ∧ n < 36 ∧ (∀ i, inI (uz (B 17) n v i)) ∧ SHT (upB B 17 (uz (B 17) n v)) (uz t n x1) (n + 1) fm r.1 r.2.1 r.2.2.1 r.2.2.2 ∧ ACT (upB B 17 (uz (B 17) n v)) ring' nx' kp' o') := by
  obtain ⟨hn, ht, h36, hF, hFi⟩ := hS
  have h17 := fun i => hB.1 17 i (by decide) (by decide) (by decide)
  have h19 := fun i => hB.1 19 i (by decide) (by decide) (by decide)
  have hfm := hF.1
  by_cases hc : 1 ≤ x1 ∧ x1 ≤ 26
  · by_cases hlt : n < 36
    · right
      obtain ⟨ring', nx', kp', o', ea, er, hA'⟩ := z_act hA hn ht h17 h19 (h36 36 (by omega)) hF hFi lk lp rk ir
      obtain ⟨u, eu, v, hv, ev⟩ := q_append (t := t) (br := B 17) h19 hlt (x1 := x1) (sl := (n : Int)) rfl
      have hends := FX_ends hn hF
      have hv01 : v = 0 ∨ v = 1 := by
        rcases hv with hv | hv
        · exact Or.inr hv.1
        · exact Or.inl hv.1
      have hvI : inI v := by omega
      have hsame : ∀ j, j ≠ 16 → j ≠ 17 → upB B 17 (uz (B 17) n v) j = B j := fun j _ hj => upB_ne _ _ hj
      refine ⟨ring', nx', kp', o', v, ?_, ?_, hlt, uz_inI h17 hvI, ⟨by omega, uz_inT ht (by omega), fun i hi => ?_, FX_type hsame hlt hF (upB_at _ _ _) ?_, hFi⟩, hA'.mono (fun e he => (EV_cg rfl rfl rfl e).mpr he)⟩
      · apply wp_out
        unfold m_X8_type
        refine wp_gd h1 (wp_if (fun c => absurd c (by omega)) (fun _ => wp_if (fun _ => ?_) (fun c => absurd hc.2 c)))
        refine wp_gd (by omega) (wp_if (fun _ => ?_) (fun c => absurd c (by omega)))
        refine wp_eq ea (wp_eq (eu.trans (congrArg some ev)) (wp_some rfl))
      · apply wp_out
        unfold m_X9_type
        refine wp_gd h1 (wp_if (fun c => absurd c (by omega)) (fun _ => wp_if (fun _ => ?_) (fun c => absurd hc.2 c)))
        refine wp_gd (by omega) (wp_if (fun c => absurd c (by omega)) (fun _ => wp_eq er ?_))
        refine wp_bind (P := fun u : Nat × Int × Int => (u.2.1 = 1 ∧ ∃ f, f < fm ∧ r.2.1 f = n) ∨ (u.2.1 = 0 ∧ ∀ f, f < fm → r.2.1 f ≠ n)) (wp_loop (fun k y => y.2 = (k : Int) ∧ ((y.1 = 1 ∧ ∃ f, f < k ∧ r.2.1 f = n) ∨ (y.1 = 0 ∧ ∀ f, f < k → r.2.1 f ≠ n))) fm (by omega) ⟨rfl, Or.inr ⟨rfl, fun f hf => absurd hf (by omega)⟩⟩ ?_) ?_
        · intro k y hk hst
          obtain ⟨ey, hst⟩ := hst
          unfold m_X9_type_40
          rw [show y.2.toNat = k by omega]
          refine wp_gd (by omega) (wp_gd (by omega) (wp_if (fun c1 => ?_) (fun c1 => ?_)))
          · have : k = fm := by omega
            subst this
            exact wp_end (by decide) hst
          · refine wp_gd (by omega) (wp_gd (hFi k).2.1 (wp_gd (by omega) (wp_if (fun c2 => ?_) (fun c2 => ?_))))
            · exact wp_vl (wp_go ⟨by omega, by show y.2 + 1 = _; omega, Or.inl ⟨rfl, k, by omega, c2⟩⟩)
            · refine wp_vl (wp_go ⟨by omega, by show y.2 + 1 = _; omega, ?_⟩)
              rcases hst with ⟨q1, f, q2, q3⟩ | ⟨q1, q2⟩
              · exact Or.inl ⟨q1, f, by omega, q3⟩
              · refine Or.inr ⟨q1, fun f hf => ?_⟩
                by_cases hfk : f = k
                · rw [hfk]
                  exact c2
                · exact q2 f (by omega)
        · rintro ⟨t40, x2, x3⟩ hu
          have hu : (x2 = 1 ∧ ∃ f, f < fm ∧ r.2.1 f = n) ∨ (x2 = 0 ∧ ∀ f, f < fm → r.2.1 f ≠ n) := hu
          have hvx : (v = 1 ∧ x2 = 1 ∧ 0 < n) ∨ (v = 0 ∧ (x2 = 0 ∨ n = 0)) := by
            rcases hv with ⟨hv, i, hi, hv2⟩ | ⟨hv, hv2⟩
            · rcases hu with ⟨hu, hu2⟩ | ⟨hu, hu2⟩
              · exact Or.inl ⟨hv, hu, by omega⟩
              · obtain ⟨f, hf, hf2⟩ := hends.mp ⟨i, hi, hv2⟩
                exact absurd hf2 (hu2 f hf)
            · rcases hu with ⟨hu, hu2⟩ | ⟨hu, hu2⟩
              · obtain ⟨i, hi, hi2⟩ := hends.mpr hu2
                exact absurd hi2 (hv2 i hi)
              · exact Or.inr ⟨hv, Or.inl hu⟩
          show wp (if (n : Int) ≤ 0 then _ else _) _
          have e93 : ∀ w : Int, m_X9_type_93 x1 n w 0 n fm t (B 17) r.1 r.2.1 r.2.2.1 r.2.2.2 kp' o'.1 o'.2.1 o'.2.2.1 o'.2.2.2.1 o'.2.2.2.2.1 o'.2.2.2.2.2.1 o'.2.2.2.2.2.2.1 o'.2.2.2.2.2.2.2 0 im = some (((n + 1 : Nat) : Int), 0, ((n + 1 : Nat) : Int), uz t n x1, uz (B 17) n w, (kp' : Int), o'.1, o'.2.1, o'.2.2.1, o'.2.2.2.1, o'.2.2.2.2.1, o'.2.2.2.2.2.1, o'.2.2.2.2.2.2.1, o'.2.2.2.2.2.2.2, 0, 0) := by
            intro w
            apply wp_out
            unfold m_X9_type_93 m_X9_changed
            rw [show Int.toNat (n : Int) = n by omega]
            exact wp_gd (by omega) (wp_vl (wp_gd (by omega) (wp_vl (wp_vl (wp_eq rfl (wp_some rfl))))))
          unfold m_X9_type_92
          rcases hvx with ⟨v1, v2, v3⟩ | ⟨v1, v2⟩
          · refine wp_if (fun c => absurd c (by omega)) (fun _ => wp_gd (by omega) (wp_if (fun c => absurd c (by omega)) (fun _ => ?_)))
            rw [v1]
            exact wp_of (e93 1) rfl
          · rw [v1]
            refine wp_if (fun c => wp_of (e93 0) rfl) (fun _ => wp_gd (by omega) (wp_if (fun _ => wp_of (e93 0) rfl) (fun c => ?_)))
            exact absurd v2 (by omega)
      · show uz (B 17) n v i = 0
        rw [uz_ne _ _ (by omega)]
        exact h36 i hi
      · rintro hex
        obtain ⟨i, hi, hi2⟩ := hends.mpr hex
        rcases hv with hv | hv
        · exact hv.1
        · exact absurd hi2 (hv.2 i hi)
    · left
      refine ⟨0, -1, -1, Or.inr ⟨rfl, rfl, by decide⟩, ?_, ?_⟩
      · apply wp_out
        unfold m_X8_type
        refine wp_gd h1 (wp_if (fun c => absurd c (by omega)) (fun _ => wp_if (fun _ => ?_) (fun c => absurd hc.2 c)))
        exact wp_gd (by omega) (wp_if (fun c => absurd c (by omega)) (fun _ => wp_some rfl))
      · apply wp_out
        unfold m_X9_type
        refine wp_gd h1 (wp_if (fun c => absurd c (by omega)) (fun _ => wp_if (fun _ => ?_) (fun c => absurd hc.2 c)))
        exact wp_gd (by omega) (wp_if (fun _ => wp_some rfl) (fun c => absurd (by omega) c))
  · left
    refine ⟨1, 0, 0, Or.inl rfl, ?_, ?_⟩
    · apply wp_out
      unfold m_X8_type
      exact wp_gd h1 (wp_if (fun _ => wp_some rfl) (fun _ => wp_if (fun _ => absurd hc (by omega)) (fun _ => wp_some rfl)))
    · apply wp_out
      unfold m_X9_type m_X9_type_16 m_X9_fail
      exact wp_gd h1 (wp_if (fun _ => wp_some rfl) (fun _ => wp_if (fun _ => absurd hc (by omega)) (fun _ => wp_some rfl)))
theorem q_freeHand {br fx : Nat → Int} : m_X4_freeHand br fx = some (fz br 0 36 0, fz fx 0 36 0) := by
  unfold m_X4_freeHand
  rw [q_fill (by omega), q_fill (by omega)]
  rfl
theorem q_rfree {br : Nat → Int} (h36 : br 36 = 0) (fm : Int) : m_X9_freeHand fm br = some (0, fz br 0 36 0) := by
  apply wp_out
  unfold m_X9_freeHand
  refine wp_bind (P := fun u : Nat × Int × (Nat → Int) => u.2.2 = fz br 0 36 0) (wp_loop (fun k y => y.1 = (k : Int) ∧ y.2 = fz br 0 k 0) 37 (by omega) ⟨rfl, (fz_nil br 0 (by omega)).symm⟩ ?_) ?_
  · intro k y hk hs
    obtain ⟨e1, e2⟩ := hs
    unfold m_X9_freeHand_7
    refine wp_gd (by omega) (wp_if (fun c => ?_) (fun c => ?_))
    · refine wp_end (by decide) ?_
      show y.2 = _
      rw [e2, show k = 37 by omega, ← fz_step br 0 (a := 0) (b := 36) (by omega)]
      funext i
      by_cases hi : i = 36
      · rw [hi, uz_at, fz_out _ _ (by omega), h36]
      · rw [uz_ne _ _ hi]
    · refine wp_gd (by omega) (wp_vl (wp_vl (wp_go ⟨by omega, by show y.1 + 1 = _; omega, ?_⟩)))
      show uz y.2 y.1.toNat 0 = _
      rw [e2, show y.1.toNat = k by omega, fz_step br 0 (by omega)]
  · rintro ⟨t7, x7, b7⟩ hu
    have hu : b7 = _ := hu
    rw [hu]
    exact wp_some rfl
theorem SHT_free {B : Nat → Nat → Int} {t : Nat → Int} {n n' fm : Nat} {r : r4} (hn : n' ≤ 36) (hS : SHT B t n fm r.1 r.2.1 r.2.2.1 r.2.2.2) : SHT (upS B (fz (B 17) 0 36 0) (fz (B 19) 0 36 0)) t n' 0 r.1 r.2.1 r.2.2.1 r.2.2.2 := by
  obtain ⟨h1, ht, h36, hF, hFi⟩ := hS
  refine ⟨hn, ht, fun i hi => ?_, ⟨by omega, fun f hf => absurd hf (by omega), fun i hi h0 => ?_, fun f g hf => absurd hf (by omega)⟩, hFi⟩
  · rw [upS_17, fz_out _ _ (by omega)]
    exact h36 i hi
  · rw [upS_19, fz_in _ _ (by omega)] at h0
    exact absurd rfl h0
set_option maxHeartbeats 1000000 in
theorem z_free {B : Nat → Nat → Int} {t : Nat → Int} {n fm : Nat} {r : r4} {ring : List zSv} {nx kp : Nat} {o : r8} (hB : GB B) (hS : SHT B t n fm r.1 r.2.1 r.2.2.1 r.2.2.2) (hA : ACT B ring nx kp o) (lk lp rk code ir : Int) :
    ∃ (ring' : List zSv) (nx' kp' : Nat) (o' : r8), m_X8_free ring nx kp lk lp rk n t (B 17) (B 19) = some ((fm : Int), ring', (nx' : Int), (kp' : Int), 0, -1, 0, fz (B 17) 0 36 0, fz (B 19) 0 36 0) ∧ m_X9_free code n fm t (B 17) r.1 r.2.1 r.2.2.1 r.2.2.2 kp o.1 o.2.1 o.2.2.1 o.2.2.2.1 o.2.2.2.2.1 o.2.2.2.2.2.1 o.2.2.2.2.2.2.1 o.2.2.2.2.2.2.2 ir = some ((fm : Int), 0, 0, fz (B 17) 0 36 0, (kp' : Int), o'.1, o'.2.1, o'.2.2.1, o'.2.2.2.1, o'.2.2.2.2.1, o'.2.2.2.2.2.1, o'.2.2.2.2.2.2.1, o'.2.2.2.2.2.2.2, 0) ∧ ACT (upS B (fz (B 17) 0 36 0) (fz (B 19) 0 36 0)) ring' nx' kp' o' := by
  obtain ⟨hn, ht, h36, hF, hFi⟩ := hS
  have h17 := fun i => hB.1 17 i (by decide) (by decide) (by decide)
  have h19 := fun i => hB.1 19 i (by decide) (by decide) (by decide)
  obtain ⟨ring', nx', kp', o', ea, er, hA'⟩ := z_act hA hn ht h17 h19 (h36 36 (by omega)) hF hFi lk lp rk ir
  have hc := q_fixedParts (fx := B 19) h19
  rw [FX_cnt hn hF] at hc
  refine ⟨ring', nx', kp', o', ?_, ?_, hA'.mono (fun e he => (upS_EV _ _ _ e).mpr he)⟩
  · apply wp_out
    unfold m_X8_free
    exact wp_eq hc (wp_eq ea (wp_eq q_freeHand (wp_some rfl)))
  · apply wp_out
    unfold m_X9_free
    exact wp_eq er (wp_eq (q_rfree (h36 36 (by omega)) _) (wp_some rfl))
set_option maxHeartbeats 1000000 in
theorem z_empty {B : Nat → Nat → Int} {t : Nat → Int} {n fm : Nat} {r : r4} {ring : List zSv} {nx kp : Nat} {o : r8} (hB : GB B) (hS : SHT B t n fm r.1 r.2.1 r.2.2.1 r.2.2.2) (hA : ACT B ring nx kp o) (lk lp rk code ir im : Int) :
    ∃ (ring' : List zSv) (nx' kp' : Nat) (o' : r8), m_X8_empty ring nx kp lk lp rk n t (B 17) (B 19) = some ((n : Int), ring', (nx' : Int), (kp' : Int), 0, -1, 0, 0, fz (B 17) 0 36 0, fz (B 19) 0 36 0) ∧ m_X9_empty code n fm t (B 17) r.1 r.2.1 r.2.2.1 r.2.2.2 kp o.1 o.2.1 o.2.2.1 o.2.2.2.1 o.2.2.2.2.1 o.2.2.2.2.2.1 o.2.2.2.2.2.2.1 o.2.2.2.2.2.2.2 ir im = some ((n : Int), 0, 0, 0, fz (B 17) 0 36 0, (kp' : Int), o'.1, o'.2.1, o'.2.2.1, o'.2.2.2.1, o'.2.2.2.2.1, o'.2.2.2.2.2.1, o'.2.2.2.2.2.2.1, o'.2.2.2.2.2.2.2, 0, 0) ∧ ACT (upS B (fz (B 17) 0 36 0) (fz (B 19) 0 36 0)) ring' nx' kp' o' := by
  obtain ⟨hn, ht, h36, hF, hFi⟩ := hS
  have h17 := fun i => hB.1 17 i (by decide) (by decide) (by decide)
  have h19 := fun i => hB.1 19 i (by decide) (by decide) (by decide)
  obtain ⟨ring', nx', kp', o', ea, er, hA'⟩ := z_act hA hn ht h17 h19 (h36 36 (by omega)) hF hFi lk lp rk ir
  refine ⟨ring', nx', kp', o', ?_, ?_, hA'.mono (fun e he => (upS_EV _ _ _ e).mpr he)⟩
  · apply wp_out
    unfold m_X8_empty m_X4_clear
    refine wp_eq ea ?_
    rw [q_freeHand]
    exact wp_some rfl
  · apply wp_out
    unfold m_X9_empty
    exact wp_eq er (wp_eq (q_rfree (h36 36 (by omega)) _) (wp_eq rfl (wp_some rfl)))
set_option maxHeartbeats 1000000 in
theorem z_break {B : Nat → Nat → Int} {t : Nat → Int} {n fm : Nat} {r : r4} {ring : List zSv} {nx kp : Nat} {o : r8} (hB : GB B) (hS : SHT B t n fm r.1 r.2.1 r.2.2.1 r.2.2.2) (hA : ACT B ring nx kp o) {x1 x2 : Int} (h1 : inI x1) (h2 : inI x2) (lk lp rk code ir : Int) :
    (∃ cd rv rv' : Int, ANS cd rv rv' ∧ m_X8_setBreak x1 x2 ring nx kp lk lp rk n t (B 17) (B 19) = some (cd, rv, ring, (nx : Int), (kp : Int), lk, lp, rk, B 17, B 19) ∧ m_X9_setBreak x1 x2 code n fm t (B 17) r.1 r.2.1 r.2.2.1 r.2.2.2 kp o.1 o.2.1 o.2.2.1 o.2.2.2.1 o.2.2.2.2.1 o.2.2.2.2.2.1 o.2.2.2.2.2.2.1 o.2.2.2.2.2.2.2 ir = some (rv', cd, (fm : Int), B 17, r.1, r.2.1, r.2.2.1, r.2.2.2, (kp : Int), o.1, o.2.1, o.2.2.1, o.2.2.2.1, o.2.2.2.2.1, o.2.2.2.2.2.1, o.2.2.2.2.2.2.1, o.2.2.2.2.2.2.2, ir)) ∨
    (∃ (ring' : List zSv) (nx' kp' : Nat) (o' : r8) (rv : Int) (br' fx' : Nat → Int) (fm' : Nat) (r' : r4), inI rv ∧ m_X8_setBreak x1 x2 ring nx kp lk lp rk n t (B 17) (B 19) = some (0, rv, ring', (nx' : Int), (kp' : Int), 0, -1, 0, br', fx') ∧ m_X9_setBreak x1 x2 code n fm t (B 17) r.1 r.2.1 r.2.2.1 r.2.2.2 kp o.1 o.2.1 o.2.2.1 o.2.2.2.1 o.2.2.2.2.1 o.2.2.2.2.2.1 o.2.2.2.2.2.2.1 o.2.2.2.2.2.2.2 ir = some (rv, 0, (fm' : Int), br', r'.1, r'.2.1, r'.2.2.1, r'.2.2.2, (kp' : Int), o'.1, o'.2.1, o'.2.2.1, o'.2.2.2.1, o'.2.2.2.2.1, o'.2.2.2.2.2.1, o'.2.2.2.2.2.2.1, o'.2.2.2.2.2.2.2, 0) ∧ (∀ i, inI (br' i)) ∧ (∀ i, inI (fx' i)) ∧ SHT (upS B br' fx') t n fm' r'.1 r'.2.1 r'.2.2.1 r'.2.2.2 ∧ ACT (upS B br' fx') ring' nx' kp' o') := by
  obtain ⟨hn, ht, h36, hF, hFi⟩ := hS
  have h17 := fun i => hB.1 17 i (by decide) (by decide) (by decide)
  have h19 := fun i => hB.1 19 i (by decide) (by decide) (by decide)
  have hfm := hF.1
  by_cases hc : (1 ≤ x1 ∧ x1 < n) ∧ 0 ≤ x2 ∧ x2 ≤ 2
  · right
    obtain ⟨p, ep⟩ : ∃ p : Nat, x1 = p := ⟨x1.toNat, by omega⟩
    have et : x1.toNat = p := by omega
    obtain ⟨ring', nx', kp', o', ea, er, hA'⟩ := z_act hA hn ht h17 h19 (h36 36 (by omega)) hF hFi lk lp rk ir
    obtain ⟨u, eu, hu1, hu2⟩ := q_moveBreak (fx := B 19) (br := B 17) h19 (p := p) (by omega) (x1 := x1) (how := x2) ep hc.2
    have hfxI : ∀ i, inI (u.2 i) := by
      intro i
      by_cases hq : i ≤ p ∧ mvP (B 19) p x2 i
      · rw [(hu2 i).1 hq]
        decide
      · rw [(hu2 i).2 hq]
        exact h19 i
    have hbrI : ∀ i, inI (u.1 i) := by
      rw [hu1]
      exact uz_inI h17 h2
    have hr : wp (m_X9_setBreak x1 x2 code n fm t (B 17) r.1 r.2.1 r.2.2.1 r.2.2.2 kp o.1 o.2.1 o.2.2.1 o.2.2.2.1 o.2.2.2.2.1 o.2.2.2.2.2.1 o.2.2.2.2.2.2.1 o.2.2.2.2.2.2.2 ir) (fun v => ∃ (fm' : Nat) (r' : r4), v = (B 17 p, 0, (fm' : Int), u.1, r'.1, r'.2.1, r'.2.2.1, r'.2.2.2, (kp' : Int), o'.1, o'.2.1, o'.2.2.1, o'.2.2.2.1, o'.2.2.2.2.1, o'.2.2.2.2.2.1, o'.2.2.2.2.2.2.1, o'.2.2.2.2.2.2.2, 0) ∧ i4 r' ∧ ∃ ix : Nat → Nat, fm' ≤ fm ∧ (∀ f, f < fm' → ix f < fm ∧ mvK r p x2 (ix f) ∧ r4eq r' r f (ix f)) ∧ (∀ f, f < fm → mvK r p x2 f → ∃ f', f' < fm' ∧ ix f' = f) ∧ ∀ f g, f < g → g < fm' → ix f < ix g) := by
      unfold m_X9_setBreak
      refine wp_gd h1 (wp_if (fun c => absurd c (by omega)) (fun _ => wp_gd (by omega) (wp_if (fun c => absurd c (by omega)) (fun _ => wp_gd h2 (wp_if (fun c => absurd c (by omega)) (fun _ => wp_if (fun _ => ?_) (fun c => absurd hc.2.2 c)))))))
      refine wp_eq er (wp_gd (by omega) (wp_vl (wp_gd (by omega) (wp_vl ?_))))
      rw [et, ← hu1]
      refine wp_if (fun c2 => ?_) (fun c2 => ?_)
      · unfold m_X9_setBreak_60
        refine wp_gd h2 (wp_if (fun c => absurd c (by omega)) (fun _ => ?_))
        refine wp_bind (q_unfixEnds hfm hFi h1 rfl) ?_
        rintro ⟨m', r'⟩ ⟨to, e1, hP, hI⟩
        have e1 : m' = (to : Int) := e1
        subst e1
        obtain ⟨q1, q2, ix, i1, i2, i3⟩ := hP
        refine wp_some ⟨to, r', rfl, hI, ix, q1, fun f hf => ?_, fun f hf hk => ?_, i3⟩
        · obtain ⟨a1, a2, a3⟩ := i1 f hf
          refine ⟨a1, ⟨fun z => absurd c2 z, fun _ => ?_⟩, a3⟩
          rw [← ep]
          exact a2
        · refine i2 f hf ?_
          rw [ep]
          exact hk.2 (by omega)
      · refine wp_bind (q_unfixOver hfm hFi h1 rfl) ?_
        rintro ⟨m', r'⟩ ⟨to, e1, hP, hI⟩
        have e1 : m' = (to : Int) := e1
        subst e1
        show wp (m_X9_setBreak_60 x1 x2 _ 0 n to t u.1 r'.1 r'.2.1 r'.2.2.1 r'.2.2.2 kp' o'.1 o'.2.1 o'.2.2.1 o'.2.2.2.1 o'.2.2.2.2.1 o'.2.2.2.2.2.1 o'.2.2.2.2.2.2.1 o'.2.2.2.2.2.2.2 0) _
        unfold m_X9_setBreak_60
        refine wp_gd h2 (wp_if (fun c3 => ?_) (fun c3 => ?_))
        · obtain ⟨q1, q2, ix, i1, i2, i3⟩ := hP
          refine wp_some ⟨to, r', rfl, hI, ix, q1, fun f hf => ?_, fun f hf hk => ?_, i3⟩
          · obtain ⟨a1, a2, a3⟩ := i1 f hf
            refine ⟨a1, ⟨fun _ => ?_, fun z => absurd c3 z⟩, a3⟩
            rw [← ep]
            exact a2
          · refine i2 f hf ?_
            rw [ep]
            exact hk.1 (by omega)
        · have hto : to ≤ 36 := by
            have := hP.1
            omega
          refine wp_bind (q_unfixEnds hto hI h1 rfl) ?_
          rintro ⟨m2, r2⟩ ⟨to2, e2, hP2, hI2⟩
          have e2 : m2 = (to2 : Int) := e2
          subst e2
          obtain ⟨ix, j0, j1, j2, j3⟩ := FP.comp (B0 := fun f => ¬ (r.1 f = x1 ∨ r.2.1 f = x1)) hP hP2 (fun f g hq => by obtain ⟨w1, w2, -⟩ := hq; show ¬ (r'.1 f = x1 ∨ r'.2.1 f = x1) ↔ ¬ (r.1 g = x1 ∨ r.2.1 g = x1); rw [w1, w2])
          refine wp_some ⟨to2, r2, rfl, hI2, ix, j0, fun f hf => ?_, fun f hf hk => ?_, j3⟩
          · obtain ⟨a1, ⟨a2, a3⟩, a4⟩ := j1 f hf
            refine ⟨a1, ⟨fun _ => ?_, fun _ => ?_⟩, a4⟩
            · rw [← ep]
              exact a2
            · rw [← ep]
              exact a3
          · refine j2 f hf ⟨?_, ?_⟩
            · rw [ep]
              exact hk.1 (by omega)
            · rw [ep]
              exact hk.2 (by omega)
    obtain ⟨v, ev, fm', r', hv, hI4, hix⟩ := hr
    refine ⟨ring', nx', kp', o', B 17 p, u.1, u.2, fm', r', h17 p, ?_, by rw [ev, hv], hbrI, hfxI, ⟨hn, ht, fun i hi => ?_, ?_, hI4⟩, hA'.mono (fun e he => (upS_EV _ _ _ e).mpr he)⟩
    · apply wp_out
      unfold m_X8_setBreak
      refine wp_gd h1 (wp_if (fun c => absurd c (by omega)) (fun _ => wp_gd (by omega) (wp_if (fun c => absurd c (by omega)) (fun _ => wp_gd h2 (wp_if (fun c => absurd c (by omega)) (fun _ => wp_if (fun _ => ?_) (fun c => absurd hc.2.2 c)))))))
      rw [et]
      exact wp_gd (by omega) (wp_vl (wp_eq ea (wp_eq eu (wp_some rfl))))
    · rw [upS_17, hu1, uz_ne _ _ (by omega)]
      exact h36 i hi
    · refine FX_move (upS_same B u.1 u.2) hn (p := p) (by omega) hc.2 hF hix ?_ ?_
      · rw [upS_17]
        exact hu1
      · rw [upS_19]
        exact hu2
  · left
    refine ⟨1, 0, 0, Or.inl rfl, ?_, ?_⟩
    · apply wp_out
      unfold m_X8_setBreak
      exact wp_gd h1 (wp_if (fun _ => wp_some rfl) (fun _ => wp_gd (by omega) (wp_if (fun _ => wp_some rfl) (fun _ => wp_gd h2 (wp_if (fun _ => wp_some rfl) (fun _ => wp_if (fun _ => absurd hc (by omega)) (fun _ => wp_some rfl)))))))
    · apply wp_out
      unfold m_X9_setBreak m_X9_setBreak_27 m_X9_fail
      exact wp_gd h1 (wp_if (fun _ => wp_some rfl) (fun _ => wp_gd (by omega) (wp_if (fun _ => wp_some rfl) (fun _ => wp_gd h2 (wp_if (fun _ => wp_some rfl) (fun _ => wp_if (fun _ => absurd hc (by omega)) (fun _ => wp_some rfl)))))))
