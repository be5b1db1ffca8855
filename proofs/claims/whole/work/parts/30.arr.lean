/-! worlds with a tail: a world laid out otherwise, calls beside a tail -/
theorem zP_iff {D : va_G} {cl : List vw_C} {ws : va_W} {H : Heap} : va_P D cl ws H ↔ ∀ q ∈ ws, va_at D cl q H := by
  constructor
  · intro h q hq
    obtain ⟨k, hk⟩ := List.getElem?_of_mem hq
    exact h k q hk
  · intro h k q hk
    exact h q (List.mem_of_getElem? hk)
theorem zD_mem {A : Nat → Prop} {ws : va_W} (h : va_D A ws) : ∀ q ∈ ws, A q.1 := by
  intro q hq
  obtain ⟨k, hk⟩ := List.getElem?_of_mem hq
  exact h.2 k q hk
theorem zD_app {A : Nat → Prop} {w1 w2 : va_W} (h : va_D A (w1 ++ w2)) : va_D A w1 ∧ va_D A w2 ∧ ∀ p ∈ w1, ∀ q ∈ w2, p.1 ≠ q.1 := by
  have l1 : ∀ (i : Nat) (p : Nat × va_E), w1[i]? = some p → (w1 ++ w2)[i]? = some p := by
    intro i p hp
    rw [List.getElem?_append_left (List.getElem?_eq_some_iff.mp hp).1]
    exact hp
  have l2 : ∀ (i : Nat) (p : Nat × va_E), w2[i]? = some p → (w1 ++ w2)[w1.length + i]? = some p := by
    intro i p hp
    rw [List.getElem?_append_right (by omega)]
    rw [show w1.length + i - w1.length = i by omega]
    exact hp
  refine ⟨⟨fun i j p q hi hj e => h.1 i j p q (l1 i p hi) (l1 j q hj) e, fun k q hk => h.2 k q (l1 k q hk)⟩, ⟨fun i j p q hi hj e => ?_, fun k q hk => h.2 _ q (l2 k q hk)⟩, ?_⟩
  · have := h.1 _ _ p q (l2 i p hi) (l2 j q hj) e
    omega
  · intro p hp q hq e
    obtain ⟨i, hi⟩ := List.getElem?_of_mem hp
    obtain ⟨j, hj⟩ := List.getElem?_of_mem hq
    have h1 := (List.getElem?_eq_some_iff.mp hi).1
    have := h.1 _ _ p q (l1 i p hi) (l2 j q hj) e
    omega
theorem zD_mk {A : Nat → Prop} {w1 w2 : va_W} (h1 : va_D A w1) (h2 : va_D A w2) (hx : ∀ p ∈ w1, ∀ q ∈ w2, p.1 ≠ q.1) : va_D A (w1 ++ w2) := va_D.app h1 h2 (fun _ _ p q hp hq => hx p (List.mem_of_getElem? hp) q (List.mem_of_getElem? hq))
/-- another laying out of the same cells, or of some of them -/
def zAr (ws ws' : va_W) : Prop := (∀ D cl H, va_P D cl ws H → va_P D cl ws' H) ∧ ∀ A, va_D A ws → va_D A ws'
theorem zAr.of {ws ws' : va_W} (is : List Nat) (hn : va_nd is = true) (hs : is.map (fun i => ws[i]?) = ws'.map some) : zAr ws ws' := ⟨fun _ _ _ h => h.sub is (z_fm hs), fun _ h => h.sub is hn hs⟩
theorem zAr.rf {ws : va_W} : zAr ws ws := ⟨fun _ _ _ h => h, fun _ h => h⟩
theorem zAr.trans {a b c : va_W} (h : zAr a b) (k : zAr b c) : zAr a c := ⟨fun D cl H q => k.1 D cl H (h.1 D cl H q), fun A q => k.2 A (h.2 A q)⟩
theorem zAr.eq {a b : va_W} (h : a = b) : zAr a b := h ▸ zAr.rf
theorem zAr.swap {a b : va_W} : zAr (a ++ b) (b ++ a) := by
  refine ⟨fun D cl H h => ?_, fun A h => ?_⟩
  · rw [zP_iff] at h ⊢
    intro q hq
    exact h q (by rcases List.mem_append.mp hq with z | z <;> simp [z])
  · obtain ⟨h1, h2, h3⟩ := zD_app h
    exact zD_mk h2 h1 (fun p hp q hq e => h3 q hq p hp e.symm)
theorem zAr.tail {a b t : va_W} (h : zAr a b) : zAr (a ++ t) (b ++ t) := by
  refine ⟨fun D cl H k => ?_, fun A k => ?_⟩
  · have k1 := h.1 D cl H (zP_iff.mpr (fun q hq => zP_iff.mp k q (List.mem_append_left _ hq)))
    exact va_P.app k1 (zP_iff.mpr (fun q hq => zP_iff.mp k q (List.mem_append_right _ hq)))
  · obtain ⟨h1, h2, h3⟩ := zD_app k
    refine zD_mk (h.2 A h1) h2 (fun p hp q hq e => ?_)
    have hb : va_D (fun z => ∃ x ∈ a, x.1 = z) a := ⟨h1.1, fun k x hx => ⟨x, List.mem_of_getElem? hx, rfl⟩⟩
    obtain ⟨x, hx, hxe⟩ := zD_mem (h.2 _ hb) p hp
    exact h3 x hx q hq (hxe.trans e)
theorem zAr.head {a b t : va_W} (h : zAr a b) : zAr (t ++ a) (t ++ b) := zAr.swap.trans (h.tail.trans zAr.swap)
theorem zAr.both {a b c d : va_W} (h : zAr a b) (k : zAr c d) : zAr (a ++ c) (b ++ d) := h.tail.trans k.head
/-- beside a callee's cells the rest stays -/
theorem zJoin {A : Nat → Prop} {D : va_G} {cl : List vw_C} {wc wr w1 : va_W} {H H1 : Heap} (hP : va_P D cl (wc ++ wr) H) (hD : va_D A (wc ++ wr)) (hk : ∀ q : Nat, q < H.size → ¬ va_A wc H.size q → H1[q]? = H[q]?) (hF : ∀ q, va_A wc H.size q → A q) (hP1 : va_P D cl w1 H1) (hD1 : va_D (va_A wc H.size) w1) : va_P D cl (wr ++ w1) H1 ∧ va_D A (wr ++ w1) := by
  obtain ⟨hDc, hDr, hx⟩ := zD_app hD
  have apart : ∀ q ∈ wr, q.1 < H.size ∧ ¬ va_A wc H.size q.1 := by
    intro q hq
    have hl := (zP_iff.mp hP q (List.mem_append_right _ hq)).lt
    refine ⟨hl, fun z => ?_⟩
    rcases z with ⟨k, e, h⟩ | h
    · exact hx (q.1, e) (List.mem_of_getElem? h) q hq rfl
    · omega
  refine ⟨va_P.app (zP_iff.mpr fun q hq => ?_) hP1, zD_mk hDr (hD1.weaken (fun k q _ h => hF q.1 h)) (fun p hp q hq e => ?_)⟩
  · obtain ⟨g1, g2⟩ := apart q hq
    exact (zP_iff.mp hP q (List.mem_append_right _ hq)).kept (hk q.1 g1 g2)
  · exact (apart p hp).2 (by rw [e]; exact zD_mem hD1 q hq)
theorem z_freeA {A : Nat → Prop} {wc wr : va_W} {H0 H : Heap} {locs : List Loc} (hD : va_D A (wc ++ wr)) (hS : va_S A H0 H locs) (hA : ∀ q, H0.size ≤ q → A q) : ∀ q, va_A wc H.size q → A q := by
  intro q h
  rcases h with ⟨k, e, h⟩ | h
  · exact zD_mem hD (q, e) (List.mem_append_left _ (List.mem_of_getElem? h))
  · exact hA q (Nat.le_trans hS.1 h)
