/-! acts: the slots of the reference are the ring's sheets -/
/-- a letter, or none yet -/
abbrev inT (x : Int) : Prop := 0 ≤ x ∧ x ≤ 26
theorem inT_I {t : Nat → Int} (h : ∀ i, inT (t i)) : ∀ i, inI (t i) := fun i => by have := h i; omega
theorem FX_cg {B B' : Nat → Nat → Int} {n fm : Nat} (hn : n ≤ 36) {fF fT fW fE gF gT gW gE : Nat → Int} (h17 : ∀ p, p < 36 → B' 17 p = B 17 p) (h19 : ∀ p, p < 36 → B' 19 p = B 19 p) (hE : ∀ e, EV B e → EV B' e) (hr : ∀ f, f < 36 → gF f = fF f ∧ gT f = fT f ∧ gW f = fW f ∧ gE f = fE f) (h : FX B n fm fF fT fW fE) : FX B' n fm gF gT gW gE := by
  obtain ⟨h1, h2, h3, h4⟩ := h
  refine ⟨h1, ?_, ?_, ?_⟩
  · intro f hf
    obtain ⟨a1, a2, a3, a4⟩ := hr f (by omega)
    rw [a1, a2, a3, a4]
    obtain ⟨b1, b2, b3, b4, b5, b6, b7⟩ := h2 f hf
    refine ⟨b1, b2, hE _ b3, ?_, ?_, ?_, ?_⟩
    · rw [h19 _ (by omega)]
      exact b4
    · rcases b5 with b5 | b5
      · exact Or.inl b5
      · right
        rw [h17 _ (by omega)]
        exact b5
    · by_cases hc : fT f = n
      · exact Or.inl hc
      · rcases b6 with b6 | b6
        · exact absurd b6 hc
        · right
          rw [h17 _ (by omega)]
          exact b6
    · intro p p1 p2
      rw [h17 p (by omega)]
      exact b7 p p1 p2
  · intro i hi h0
    rw [h19 i hi] at h0
    obtain ⟨f, hf, e⟩ := h3 i hi h0
    refine ⟨f, hf, ?_⟩
    rw [(hr f (by omega)).1]
    exact e
  · intro f g hf hg e
    rw [(hr f (by omega)).1, (hr g (by omega)).1] at e
    exact h4 f g hf hg e
abbrev upS (B : Nat → Nat → Int) (br fx : Nat → Int) : Nat → Nat → Int := upB (upB B 17 br) 19 fx
theorem upS_17 (B : Nat → Nat → Int) (br fx : Nat → Int) : upS B br fx 17 = br := by
  unfold upS
  rw [upB_ne _ _ (by decide), upB_at]
theorem upS_19 (B : Nat → Nat → Int) (br fx : Nat → Int) : upS B br fx 19 = fx := upB_at _ _ _
theorem upS_same (B : Nat → Nat → Int) (br fx : Nat → Int) : same19 B (upS B br fx) := by
  intro j h1 h2
  unfold upS
  rw [upB_ne _ _ h2, upB_ne _ _ h1]
theorem upS_EV (B : Nat → Nat → Int) (br fx : Nat → Int) (e : Int) : EV (upS B br fx) e ↔ EV B e := EV_same (upS_same B br fx) e
/-- slot i of the reference holds the sheet g -/
def SLT (B : Nat → Nat → Int) (g : zSv) (o : r8) (i : Nat) : Prop := ∃ n fm : Nat, g.1 = n ∧ n ≤ 36 ∧ o.1 i = n ∧ o.2.1 i = fm ∧ (∀ j, j < 36 → g.2.1 j = o.2.2.1 (36 * i + j) ∧ inT (g.2.1 j)) ∧ (∀ j, j < 36 → g.2.2.1 j = o.2.2.2.1 (37 * i + j) ∧ inI (g.2.2.1 j) ∧ inI (g.2.2.2 j)) ∧ o.2.2.2.1 (37 * i + 36) = 0 ∧ (∀ j, j < 36 → inI (o.2.2.2.2.1 (36 * i + j)) ∧ inI (o.2.2.2.2.2.1 (36 * i + j)) ∧ inI (o.2.2.2.2.2.2.1 (36 * i + j)) ∧ inI (o.2.2.2.2.2.2.2 (36 * i + j))) ∧ FX (upS B g.2.2.1 g.2.2.2) n fm (fun j => o.2.2.2.2.1 (36 * i + j)) (fun j => o.2.2.2.2.2.1 (36 * i + j)) (fun j => o.2.2.2.2.2.2.1 (36 * i + j)) (fun j => o.2.2.2.2.2.2.2 (36 * i + j))
def sltEq (o' o : r8) (i' i : Nat) : Prop := o'.1 i' = o.1 i ∧ o'.2.1 i' = o.2.1 i ∧ (∀ j, j < 36 → o'.2.2.1 (36 * i' + j) = o.2.2.1 (36 * i + j) ∧ o'.2.2.2.2.1 (36 * i' + j) = o.2.2.2.2.1 (36 * i + j) ∧ o'.2.2.2.2.2.1 (36 * i' + j) = o.2.2.2.2.2.1 (36 * i + j) ∧ o'.2.2.2.2.2.2.1 (36 * i' + j) = o.2.2.2.2.2.2.1 (36 * i + j) ∧ o'.2.2.2.2.2.2.2 (36 * i' + j) = o.2.2.2.2.2.2.2 (36 * i + j)) ∧ ∀ j, j < 37 → o'.2.2.2.1 (37 * i' + j) = o.2.2.2.1 (37 * i + j)
theorem sltEq.refl (o : r8) (i : Nat) : sltEq o o i i := ⟨rfl, rfl, fun _ _ => ⟨rfl, rfl, rfl, rfl, rfl⟩, fun _ _ => rfl⟩
theorem sltEq.trans {o o' o'' : r8} {i i' i'' : Nat} (h : sltEq o o' i i') (g : sltEq o' o'' i' i'') : sltEq o o'' i i'' := by
  obtain ⟨a1, a2, a3, a4⟩ := h
  obtain ⟨b1, b2, b3, b4⟩ := g
  refine ⟨a1.trans b1, a2.trans b2, fun j hj => ?_, fun j hj => (a4 j hj).trans (b4 j hj)⟩
  obtain ⟨c1, c2, c3, c4, c5⟩ := a3 j hj
  obtain ⟨d1, d2, d3, d4, d5⟩ := b3 j hj
  exact ⟨c1.trans d1, c2.trans d2, c3.trans d3, c4.trans d4, c5.trans d5⟩
theorem SLT.of {B B' : Nat → Nat → Int} {g : zSv} {o o' : r8} {i i' : Nat} (h : SLT B g o i) (hq : sltEq o' o i' i) (hE : ∀ e, EV B e → EV B' e) : SLT B' g o' i' := by
  obtain ⟨n, fm, h1, h2, h3, h4, h5, h6, h7, h8, h9⟩ := h
  obtain ⟨q1, q2, q3, q4⟩ := hq
  refine ⟨n, fm, h1, h2, q1.trans h3, q2.trans h4, fun j hj => ?_, fun j hj => ?_, ?_, fun j hj => ?_, ?_⟩
  · rw [(q3 j hj).1]
    exact h5 j hj
  · rw [q4 j (by omega)]
    exact h6 j hj
  · rw [q4 36 (by omega)]
    exact h7
  · obtain ⟨_, c2, c3, c4, c5⟩ := q3 j hj
    rw [c2, c3, c4, c5]
    exact h8 j hj
  · refine FX_cg h2 (fun p _ => ?_) (fun p _ => ?_) (fun e he => ?_) (fun f hf => ?_) h9
    · rw [upS_17, upS_17]
    · rw [upS_19, upS_19]
    · exact (upS_EV _ _ _ e).mpr (hE e ((upS_EV _ _ _ e).mp he))
    · obtain ⟨_, c2, c3, c4, c5⟩ := q3 f hf
      exact ⟨c2, c3, c4, c5⟩
theorem putA_ne {o : r8} {k i : Nat} (h : i ≠ k) (n fm : Int) (t br : Nat → Int) (r : r4) : sltEq (putA o k n fm t br r) o i i := by
  unfold putA
  refine ⟨uz_ne _ _ h, uz_ne _ _ h, fun j hj => ⟨zcp_out _ _ (by omega), zcp_out _ _ (by omega), zcp_out _ _ (by omega), zcp_out _ _ (by omega), zcp_out _ _ (by omega)⟩, fun j hj => zcp_out _ _ (by omega)⟩
theorem shfA_at {o : r8} {i : Nat} (h : i < 79) : sltEq (shfA o 79) o i (i + 1) := by
  have h36 : ∀ (f : Nat → Int) (j : Nat), j < 36 → zcp f f 36 0 (36 * 79) (36 * i + j) = f (36 * (i + 1) + j) := by
    intro f j hj
    rw [zcp_in _ _ (by omega)]
    congr 1
    omega
  have h37 : ∀ (f : Nat → Int) (j : Nat), j < 37 → zcp f f 37 0 (37 * 79) (37 * i + j) = f (37 * (i + 1) + j) := by
    intro f j hj
    rw [zcp_in _ _ (by omega)]
    congr 1
    omega
  have h1 : ∀ (f : Nat → Int), zcp f f 1 0 (1 * 79) i = f (i + 1) := by
    intro f
    rw [zcp_in _ _ (by omega)]
    congr 1
    omega
  unfold shfA
  exact ⟨h1 _, h1 _, fun j hj => ⟨h36 _ j hj, h36 _ j hj, h36 _ j hj, h36 _ j hj, h36 _ j hj⟩, fun j hj => h37 _ j hj⟩
theorem SLT.new {B : Nat → Nat → Int} {n fm : Nat} (hn : n ≤ 36) {t : Nat → Int} {r : r4} (ht : ∀ i, inT (t i)) (h17 : ∀ i, inI (B 17 i)) (h19 : ∀ i, inI (B 19 i)) (h36 : B 17 36 = 0) (hF : FX B n fm r.1 r.2.1 r.2.2.1 r.2.2.2) (hFi : ∀ i, inI (r.1 i) ∧ inI (r.2.1 i) ∧ inI (r.2.2.1 i) ∧ inI (r.2.2.2 i)) (g0 : zSv) (o : r8) (k : Nat) : SLT B (zCopy g0 ((n : Int), t, B 17, B 19)) (putA o k n fm t (B 17) r) k := by
  have z : ∀ (f g : Nat → Int) (j : Nat), j < 36 → zcp f g 0 (36 * k) 36 (36 * k + j) = f j := by
    intro f g j hj
    rw [zcp_in _ _ (by omega)]
    congr 1
    omega
  have z7 : ∀ (f g : Nat → Int) (j : Nat), j < 37 → zcp f g 0 (37 * k) 37 (37 * k + j) = f j := by
    intro f g j hj
    rw [zcp_in _ _ (by omega)]
    congr 1
    omega
  have c : ∀ (f g : Nat → Int) (j : Nat), j < 36 → zcp f g 0 0 36 j = f j := by
    intro f g j hj
    rw [zcp_in _ _ (by omega)]
    congr 1
    omega
  refine ⟨n, fm, rfl, hn, uz_at _ _ _, uz_at _ _ _, fun j hj => ?_, fun j hj => ?_, ?_, fun j hj => ?_, ?_⟩
  · show zcp t g0.2.1 0 0 36 j = zcp t o.2.2.1 0 (36 * k) 36 (36 * k + j) ∧ inT (zcp t g0.2.1 0 0 36 j)
    rw [c _ _ j hj, z _ _ j hj]
    exact ⟨rfl, ht j⟩
  · show zcp (B 17) g0.2.2.1 0 0 36 j = zcp (B 17) o.2.2.2.1 0 (37 * k) 37 (37 * k + j) ∧ inI (zcp (B 17) g0.2.2.1 0 0 36 j) ∧ inI (zcp (B 19) g0.2.2.2 0 0 36 j)
    rw [c _ _ j hj, c _ _ j hj, z7 _ _ j (by omega)]
    exact ⟨rfl, h17 j, h19 j⟩
  · show zcp (B 17) o.2.2.2.1 0 (37 * k) 37 (37 * k + 36) = 0
    rw [z7 _ _ 36 (by omega)]
    exact h36
  · show inI (zcp r.1 o.2.2.2.2.1 0 (36 * k) 36 (36 * k + j)) ∧ inI (zcp r.2.1 o.2.2.2.2.2.1 0 (36 * k) 36 (36 * k + j)) ∧ inI (zcp r.2.2.1 o.2.2.2.2.2.2.1 0 (36 * k) 36 (36 * k + j)) ∧ inI (zcp r.2.2.2 o.2.2.2.2.2.2.2 0 (36 * k) 36 (36 * k + j))
    rw [z _ _ j hj, z _ _ j hj, z _ _ j hj, z _ _ j hj]
    exact hFi j
  · refine FX_cg hn (fun p hp => ?_) (fun p hp => ?_) (fun e he => (upS_EV _ _ _ e).mpr he) (fun f hf => ?_) hF
    · rw [upS_17]
      exact c _ _ p hp
    · rw [upS_19]
      exact c _ _ p hp
    · exact ⟨z _ _ f hf, z _ _ f hf, z _ _ f hf, z _ _ f hf⟩
theorem zKeep_at {ring : List zSv} {nx : Nat} (h : nx ≤ ring.length) (v : zSv) : ∃ g0, (zKeep ring nx v)[nx]? = some (zCopy g0 v) := by
  unfold zKeep
  by_cases hc : nx < ring.length
  · rw [if_pos hc]
    exact ⟨_, List.getElem?_set_self hc⟩
  · rw [if_neg hc]
    have : nx = ring.length := by omega
    subst this
    exact ⟨_, List.getElem?_concat_length⟩
theorem zKeep_ne {ring : List zSv} {nx m : Nat} {v g : zSv} (hne : m ≠ nx) (h : ring[m]? = some g) : (zKeep ring nx v)[m]? = some g := by
  unfold zKeep
  by_cases hc : nx < ring.length
  · rw [if_pos hc, List.getElem?_set_ne (fun e => hne e.symm)]
    exact h
  · rw [if_neg hc]
    obtain ⟨hm, _⟩ := List.getElem?_eq_some_iff.mp h
    rw [List.getElem?_append_left hm]
    exact h
theorem zKeep_len (ring : List zSv) (nx : Nat) (v : zSv) : (zKeep ring nx v).length = if nx < ring.length then ring.length else ring.length + 1 := by
  unfold zKeep
  by_cases hc : nx < ring.length
  · rw [if_pos hc, if_pos hc, List.length_set]
  · rw [if_neg hc, if_neg hc, List.length_append]
    rfl
/-- the acts that are kept, of both sides -/
def ACT (B : Nat → Nat → Int) (ring : List zSv) (nx kp : Nat) (o : r8) : Prop := nx < 80 ∧ kp ≤ 80 ∧ nx ≤ ring.length ∧ (ring.length = 80 ∨ (ring.length < 80 ∧ kp ≤ nx)) ∧ ∀ i, i < kp → ∃ g, ring[(nx + 80 - kp + i) % 80]? = some g ∧ SLT B g o i
theorem ACT.mono {B B' : Nat → Nat → Int} {ring : List zSv} {nx kp : Nat} {o : r8} (h : ACT B ring nx kp o) (hE : ∀ e, EV B e → EV B' e) : ACT B' ring nx kp o := by
  obtain ⟨h1, h2, h3, h4, h5⟩ := h
  refine ⟨h1, h2, h3, h4, fun i hi => ?_⟩
  obtain ⟨g, e, hg⟩ := h5 i hi
  exact ⟨g, e, hg.of (sltEq.refl _ _) hE⟩
theorem ACT.none {B : Nat → Nat → Int} {ring : List zSv} {nx kp : Nat} {o : r8} (h : ACT B ring nx kp o) : ACT B ring nx 0 o := by
  obtain ⟨h1, h2, h3, h4, h5⟩ := h
  exact ⟨h1, by omega, h3, by omega, fun i hi => absurd hi (by omega)⟩
theorem ACT.keep {B : Nat → Nat → Int} {ring : List zSv} {nx kp : Nat} {o : r8} (h : ACT B ring nx kp o) {n fm : Nat} (hn : n ≤ 36) {t : Nat → Int} {r : r4} (ht : ∀ i, inT (t i)) (h17 : ∀ i, inI (B 17 i)) (h19 : ∀ i, inI (B 19 i)) (h36 : B 17 36 = 0) (hF : FX B n fm r.1 r.2.1 r.2.2.1 r.2.2.2) (hFi : ∀ i, inI (r.1 i) ∧ inI (r.2.1 i) ∧ inI (r.2.2.1 i) ∧ inI (r.2.2.2 i)) {k : Nat} {o' : r8} (hk : (kp < 80 ∧ k = kp ∧ o' = o) ∨ (kp = 80 ∧ k = 79 ∧ o' = shfA o 79)) : ACT B (zKeep ring nx ((n : Int), t, B 17, B 19)) ((nx + 1) % 80) (k + 1) (putA o' k n fm t (B 17) r) := by
  obtain ⟨h1, h2, h3, h4, h5⟩ := h
  have hlen := zKeep_len ring nx ((n : Int), t, B 17, B 19)
  have hL : (zKeep ring nx ((n : Int), t, B 17, B 19)).length = ring.length ∧ nx < ring.length ∨ (zKeep ring nx ((n : Int), t, B 17, B 19)).length = ring.length + 1 ∧ nx = ring.length := by
    by_cases hc : nx < ring.length
    · rw [if_pos hc] at hlen
      exact Or.inl ⟨hlen, hc⟩
    · rw [if_neg hc] at hlen
      exact Or.inr ⟨hlen, by omega⟩
  refine ⟨by omega, by omega, by omega, by omega, fun i hi => ?_⟩
  by_cases hik : i = k
  · obtain ⟨g0, hg⟩ := zKeep_at h3 ((n : Int), t, B 17, B 19)
    refine ⟨zCopy g0 ((n : Int), t, B 17, B 19), ?_, ?_⟩
    · rw [show ((nx + 1) % 80 + 80 - (k + 1) + i) % 80 = nx by omega]
      exact hg
    · rw [hik]
      exact SLT.new hn ht h17 h19 h36 hF hFi g0 o' k
  · rcases hk with ⟨k1, k2, k3⟩ | ⟨k1, k2, k3⟩
    · obtain ⟨g, e, hg⟩ := h5 i (by omega)
      refine ⟨g, ?_, ?_⟩
      · rw [show ((nx + 1) % 80 + 80 - (k + 1) + i) % 80 = (nx + 80 - kp + i) % 80 by omega]
        exact zKeep_ne (by omega) e
      · rw [k3]
        exact hg.of (putA_ne hik _ _ _ _ _) (fun e he => he)
    · obtain ⟨g, e, hg⟩ := h5 (i + 1) (by omega)
      refine ⟨g, ?_, ?_⟩
      · rw [show ((nx + 1) % 80 + 80 - (k + 1) + i) % 80 = (nx + 80 - kp + (i + 1)) % 80 by omega]
        exact zKeep_ne (by omega) e
      · rw [k3]
        exact hg.of ((putA_ne hik _ _ _ _ _).trans (shfA_at (by omega))) (fun e he => he)
theorem ACT.undo {B : Nat → Nat → Int} {ring : List zSv} {nx kp : Nat} {o : r8} (h : ACT B ring nx (kp + 1) o) : ∃ g, ring[(nx + 79) % 80]? = some g ∧ SLT B g o kp ∧ ACT B ring ((nx + 79) % 80) kp o := by
  obtain ⟨h1, h2, h3, h4, h5⟩ := h
  obtain ⟨g, e, hg⟩ := h5 kp (by omega)
  rw [show (nx + 80 - (kp + 1) + kp) % 80 = (nx + 79) % 80 by omega] at e
  obtain ⟨hm, _⟩ := List.getElem?_eq_some_iff.mp e
  refine ⟨g, e, hg, by omega, by omega, by omega, by omega, fun i hi => ?_⟩
  obtain ⟨g', e', hg'⟩ := h5 i (by omega)
  refine ⟨g', ?_, hg'⟩
  rw [show ((nx + 79) % 80 + 80 - kp + i) % 80 = (nx + 80 - (kp + 1) + i) % 80 by omega]
  exact e'
theorem tmod80 (x : Nat) {y : Int} (e : y = x) : Int.tmod y 80 = ((x % 80 : Nat) : Int) := by
  rw [e, Int.tmod_eq_emod_of_nonneg (by omega)]
  omega
/-- an act begins, on both sides -/
theorem z_act {B : Nat → Nat → Int} {ring : List zSv} {nx kp : Nat} {o : r8} (h : ACT B ring nx kp o) {n fm : Nat} (hn : n ≤ 36) {t : Nat → Int} {r : r4} (ht : ∀ i, inT (t i)) (h17 : ∀ i, inI (B 17 i)) (h19 : ∀ i, inI (B 19 i)) (h36 : B 17 36 = 0) (hF : FX B n fm r.1 r.2.1 r.2.2.1 r.2.2.2) (hFi : ∀ i, inI (r.1 i) ∧ inI (r.2.1 i) ∧ inI (r.2.2.1 i) ∧ inI (r.2.2.2 i)) (lk lp rk ir : Int) : ∃ (ring' : List zSv) (nx' kp' : Nat) (o' : r8), m_X8_beginAct ring nx kp lk lp rk n t (B 17) (B 19) = some (ring', (nx' : Int), (kp' : Int), 0, -1, 0) ∧ m_X9_act n fm t (B 17) r.1 r.2.1 r.2.2.1 r.2.2.2 kp o.1 o.2.1 o.2.2.1 o.2.2.2.1 o.2.2.2.2.1 o.2.2.2.2.2.1 o.2.2.2.2.2.2.1 o.2.2.2.2.2.2.2 ir = some ((kp' : Int), o'.1, o'.2.1, o'.2.2.1, o'.2.2.2.1, o'.2.2.2.2.1, o'.2.2.2.2.2.1, o'.2.2.2.2.2.2.1, o'.2.2.2.2.2.2.2, 0) ∧ ACT B ring' nx' kp' o' := by
  obtain ⟨k, o1, hk, e1⟩ := q_act (kp := kp) h.2.1 (n := (n : Int)) (fm := (fm : Int)) (ma := (kp : Int)) (ir := ir) rfl t (B 17) r o
  refine ⟨zKeep ring nx ((n : Int), t, B 17, B 19), (nx + 1) % 80, k + 1, putA o1 k n fm t (B 17) r, ?_, e1, h.keep hn ht h17 h19 h36 hF hFi hk⟩
  have h1 := h.1
  have h2 := h.2.1
  have h3 := h.2.2.1
  have ek : m_X0_keep ring nx kp n t (B 17) (B 19) = some (zKeep ring nx ((n : Int), t, B 17, B 19), (((nx + 1) % 80 : Nat) : Int), ((k + 1 : Nat) : Int)) := by
    unfold m_X0_keep
    apply wp_out
    refine wp_gd (by omega) (wp_gd (by omega) (wp_gd (by omega) (wp_some ?_)))
    rw [tmod80 (nx + 1) (by omega), show min ((kp : Int) + 1) 80 = ((k + 1 : Nat) : Int) by omega, show Int.toNat (nx : Int) = nx by omega]
  unfold m_X8_beginAct
  apply wp_out
  refine wp_eq ek ?_
  exact wp_some rfl
