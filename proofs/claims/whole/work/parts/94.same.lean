/-! what changes of the book leave as it was -/
def smT (B B' : Nat → Nat → Int) : Prop := B' 0 = B 0 ∧ B' 1 = B 1 ∧ B' 2 = B 2 ∧ B' 3 = B 3 ∧ B' 13 = B 13 ∧ B' 4 = B 4 ∧ B' 9 = B 9 ∧ B' 7 = B 7 ∧ B' 11 = B 11 ∧ B' 18 = B 18
def smV (B B' : Nat → Nat → Int) : Prop := smT B B' ∧ B' 6 = B 6 ∧ B' 8 = B 8 ∧ B' 12 = B 12
theorem spR_cg {B B' : Nat → Nat → Int} (h : smT B B') {t : Nat → Int} : ∀ (ss : List Nat) (a b : Nat) (x : Int), spR B' t ss a b x ↔ spR B t ss a b x := by
  obtain ⟨h0, h1, h2, h3, h13, -⟩ := h
  have hf : ∀ i p, fit B' t i p ↔ fit B t i p := by
    intro i p
    unfold fit
    rw [h1, h2]
  have hp : ∀ i p, prc B' t i p = prc B t i p := by
    intro i p
    unfold prc
    rw [h1, h2, h3, h13]
  intro ss
  induction ss with
  | nil =>
    intro a b x
    exact Iff.rfl
  | cons s ss ih =>
    intro a b x
    show (∃ (j : Nat) (y : Int), (j : Int) < B' 0 s ∧ fit B' t (3 * s + j) a ∧ spR B' t ss (a + (B' 2 (3 * s + j)).toNat) b y ∧ x = prc B' t (3 * s + j) a + y) ↔ (∃ (j : Nat) (y : Int), (j : Int) < B 0 s ∧ fit B t (3 * s + j) a ∧ spR B t ss (a + (B 2 (3 * s + j)).toNat) b y ∧ x = prc B t (3 * s + j) a + y)
    simp only [h0, h2, hf, hp, ih]
theorem EV_cg {B B' : Nat → Nat → Int} (h7 : B' 7 = B 7) (h11 : B' 11 = B 11) (h18 : B' 18 = B 18) (e : Int) : EV B' e ↔ EV B e := by
  unfold EV
  rw [h7, h11, h18]
theorem sds_cg {B B' : Nat → Nat → Int} (h4 : B' 4 = B 4) (h9 : B' 9 = B 9) (e : Int) : sds B' e = sds B e := by
  unfold sds esd
  rw [h4, h9]
theorem TBL_cg {B B' : Nat → Nat → Int} (h : smT B B') {t : Nat → Int} {n c : Nat} {tb : Nat → Int} (hT : TBL B t n c tb) : TBL B' t n c tb := by
  obtain ⟨h0, h1, h2, h3, h13, h4, h9, h7, h11, h18⟩ := id h
  refine ⟨fun a e h1 h2 h3 h4' => ?_, hT.2⟩
  have hq := hT.1 a e h1 h2 h3 ((EV_cg h7 h11 h18 _).mp h4')
  rw [sds_cg h4 h9]
  intro k hk
  obtain ⟨q1, q2⟩ := hq k hk
  exact ⟨fun z => (q1 z).iff (fun x => spR_cg h _ _ _ x), q2⟩
theorem CL_cg {B B' : Nat → Nat → Int} (h : smV B B') {t : Nat → Int} (e : Int) (a b : Nat) (x : Int) : CL B' t e a b x ↔ CL B t e a b x := by
  obtain ⟨hT, h6, h8, h12⟩ := h
  have hs := fun ss a b x => spR_cg (t := t) hT ss a b x
  obtain ⟨h0, h1, h2, h3, h13, h4, h9, h7, h11, h18⟩ := id hT
  unfold CL wct epr
  rw [sds_cg h4 h9, h13, h8, h12]
  simp only [hs]
theorem VO_cg {B B' : Nat → Nat → Int} (h : smV B B') {cols : Nat} {vals lr : Nat → Int} (hV : VO B cols vals lr) : VO B' cols vals lr := by
  have hc := fun t e a b x => CL_cg (t := t) h e a b x
  obtain ⟨hT, h6, h8, h12⟩ := h
  obtain ⟨h0, h1, h2, h3, h13, h4, h9, h7, h11, h18⟩ := id hT
  obtain ⟨v1, v2, v3, v4⟩ := hV
  refine ⟨v1, fun b b1 b2 a k ha hk => ?_, v3, v4⟩
  rw [h18]
  refine (v2 b b1 b2 a k ha hk).iff (fun x => ?_)
  unfold VS
  simp only [EV_cg h7 h11 h18, h6, hc]
theorem VO_zero {B B' : Nat → Nat → Int} {cols : Nat} {vals lr : Nat → Int} (hV : VO B cols vals lr) : VO B' 0 vals lr := ⟨by omega, fun b b1 b2 => absurd b2 (by omega), hV.2.2⟩
theorem GW_cg {B B' : Nat → Nat → Int} (h4 : B' 4 = B 4) (h5 : B' 5 = B 5) (h6 : B' 6 = B 6) (h7 : B' 7 = B 7) (h9 : B' 9 = B 9) (h10 : B' 10 = B 10) (h11 : B' 11 = B 11) (h12 : B' 12 = B 12) (h18 : B' 18 = B 18) (h : GW B) : GW B' := by
  unfold GW at h ⊢
  rw [h4, h5, h6, h7, h9, h10, h11, h12, h18]
  exact h
theorem GS_cg {B B' : Nat → Nat → Int} (h14 : B' 14 = B 14) (h : GS B) : GS B' := by
  unfold GS at h ⊢
  rw [h14]
  exact h
theorem stp_cg {B B' : Nat → Nat → Int} (h14 : B' 14 = B 14) (h15 : B' 15 = B 15) (k j : Int) : stp B' k j = stp B k j := by
  unfold stp
  rw [h14, h15]
theorem SCo_cg {B B' : Nat → Nat → Int} (h14 : B' 14 = B 14) (h15 : B' 15 = B 15) {sc : Nat → Int} (h : SCo B sc) : SCo B' sc := by
  intro k j hk hj
  rw [stp_cg h14 h15]
  exact h k j hk hj
/-- the book is good after k calls -/
def GD (k : Nat) (B : Nat → Nat → Int) (sc : Nat → Int) : Prop := GB B ∧ GW B ∧ GS B ∧ SCo B sc ∧ ∀ i, (-(36 * (k : Int)) ≤ B 8 i ∧ B 8 i ≤ 36 * (k : Int)) ∧ (-(36 * (k : Int)) ≤ B 15 i ∧ B 15 i ≤ 36 * (k : Int))
theorem GD.up {k : Nat} {B : Nat → Nat → Int} {sc : Nat → Int} (h : GD k B sc) : GD (k + 1) B sc := by
  obtain ⟨h1, h2, h3, h4, h5⟩ := h
  refine ⟨h1, h2, h3, h4, fun i => ?_⟩
  have := h5 i
  omega
/-- another sheet -/
theorem GB_sheet {B B' : Nat → Nat → Int} (hs : same19 B B') (h17 : ∀ i, inI (B' 17 i)) (h19 : ∀ i, inI (B' 19 i)) (h : GB B) : GB B' := by
  obtain ⟨h1, h2, h3, h4, h5⟩ := h
  have e0 := hs 0 (by decide) (by decide)
  have e1 := hs 1 (by decide) (by decide)
  have e2 := hs 2 (by decide) (by decide)
  have e3 := hs 3 (by decide) (by decide)
  have e13 := hs 13 (by decide) (by decide)
  refine ⟨fun k i a b c => ?_, ?_, ?_, ?_, ?_⟩
  · by_cases k17 : k = 17
    · rw [k17]
      exact h17 i
    · by_cases k19 : k = 19
      · rw [k19]
        exact h19 i
      · rw [hs k k17 k19]
        exact h1 k i a b c
  · rw [e0]
    exact h2
  · rw [e2, e3]
    exact h3
  · rw [e0, e1, e2]
    exact h4
  · rw [e13]
    exact h5
theorem GD_sheet {k : Nat} {B B' : Nat → Nat → Int} {sc : Nat → Int} (hs : same19 B B') (h17 : ∀ i, inI (B' 17 i)) (h19 : ∀ i, inI (B' 19 i)) (h : GD k B sc) : GD k B' sc := by
  obtain ⟨h1, h2, h3, h4, h5⟩ := h
  have e : ∀ j, j ≠ 17 → j ≠ 19 → B' j = B j := hs
  refine ⟨GB_sheet hs h17 h19 h1, GW_cg (e 4 (by decide) (by decide)) (e 5 (by decide) (by decide)) (e 6 (by decide) (by decide)) (e 7 (by decide) (by decide)) (e 9 (by decide) (by decide)) (e 10 (by decide) (by decide)) (e 11 (by decide) (by decide)) (e 12 (by decide) (by decide)) (e 18 (by decide) (by decide)) h2, GS_cg (e 14 (by decide) (by decide)) h3, SCo_cg (e 14 (by decide) (by decide)) (e 15 (by decide) (by decide)) h4, ?_⟩
  rw [e 8 (by decide) (by decide), e 15 (by decide) (by decide)]
  exact h5
theorem smV_sheet {B B' : Nat → Nat → Int} (e : same19 B B') : smV B B' := ⟨⟨e 0 (by decide) (by decide), e 1 (by decide) (by decide), e 2 (by decide) (by decide), e 3 (by decide) (by decide), e 13 (by decide) (by decide), e 4 (by decide) (by decide), e 9 (by decide) (by decide), e 7 (by decide) (by decide), e 11 (by decide) (by decide), e 18 (by decide) (by decide)⟩, e 6 (by decide) (by decide), e 8 (by decide) (by decide), e 12 (by decide) (by decide)⟩
/-- the class's caches -/
def CC (B : Nat → Nat → Int) (t : Nat → Int) (n : Nat) (tails leads : Nat → Int) (lk lp olen : Int) (oE oC fv heads rests : Nat → Int) (rk rtot rlen : Int) (bg en et co vals lr : Nat → Int) (vc : Int) (now next : Nat → Int) (low high : Int) (seeds lows : Nat → Int) : Prop :=
  (∀ i, inI (tails i)) ∧ (∀ i, inI (leads i)) ∧ (∀ i, inI (oC i)) ∧ (∀ i, inI (fv i)) ∧ (∀ i, inI (heads i)) ∧ (∀ i, inI (rests i)) ∧ spOk now next low high ∧ (∀ i, inI (seeds i)) ∧ (∀ i, inI (lows i)) ∧ (∃ cols : Nat, vc = cols ∧ VO B cols vals lr) ∧ inI lp ∧
  ((rk = 0 ∧ lk = 0 ∧ lp = -1) ∨ (rk = 1 ∧ RDC B t n fv rests rtot rlen bg en et co vals ∧ (lk = 0 ∨ (lk = 1 ∧ LDC B t n tails leads)) ∧ (lp = -1 ∨ (lk = 1 ∧ ∃ i a b : Nat, lp = i ∧ bg i = a ∧ en i = b ∧ OLC B t a b leads rests olen oE oC))))
theorem CC.line {B B' : Nat → Nat → Int} {t t' : Nat → Int} {n n' : Nat} {tails leads : Nat → Int} {lk lp olen : Int} {oE oC fv heads rests : Nat → Int} {rk rtot rlen : Int} {bg en et co vals lr : Nat → Int} {vc : Int} {now next : Nat → Int} {low high : Int} {seeds lows : Nat → Int} (h : CC B t n tails leads lk lp olen oE oC fv heads rests rk rtot rlen bg en et co vals lr vc now next low high seeds lows) (hs : smV B B') : CC B' t' n' tails leads 0 (-1) olen oE oC fv heads rests 0 rtot rlen bg en et co vals lr vc now next low high seeds lows := by
  obtain ⟨h1, h2, h3, h4, h5, h6, h7, h8, h9, ⟨cols, e, hv⟩, h11, h12⟩ := h
  exact ⟨h1, h2, h3, h4, h5, h6, h7, h8, h9, ⟨cols, e, VO_cg hs hv⟩, by decide, Or.inl ⟨rfl, rfl, rfl⟩⟩
theorem CC.book {B B' : Nat → Nat → Int} {t t' : Nat → Int} {n n' : Nat} {tails leads : Nat → Int} {lk lp olen : Int} {oE oC fv heads rests : Nat → Int} {rk rtot rlen : Int} {bg en et co vals lr : Nat → Int} {vc : Int} {now next : Nat → Int} {low high : Int} {seeds lows : Nat → Int} (h : CC B t n tails leads lk lp olen oE oC fv heads rests rk rtot rlen bg en et co vals lr vc now next low high seeds lows) : CC B' t' n' tails leads 0 (-1) olen oE oC fv heads rests 0 rtot rlen bg en et co vals lr 0 now next low high seeds lows := by
  obtain ⟨h1, h2, h3, h4, h5, h6, h7, h8, h9, ⟨cols, e, hv⟩, h11, h12⟩ := h
  exact ⟨h1, h2, h3, h4, h5, h6, h7, h8, h9, ⟨0, rfl, VO_zero hv⟩, by decide, Or.inl ⟨rfl, rfl, rfl⟩⟩
/-- the reference's caches -/
def RC (B : Nat → Nat → Int) (t : Nat → Int) (n : Nat) (ir im : Int) (tb re ne rest ahead : Nat → Int) (parts total : Int) (pF pT pW pE cC : Nat → Int) : Prop :=
  (∀ i, inI (tb i)) ∧ (∀ i, inI (re i)) ∧ (∀ i, inI (ne i)) ∧ (∀ i, inI (rest i)) ∧ (∀ i, inI (ahead i)) ∧ (∀ i, inI (cC i)) ∧ (im = 0 ∨ (im = 1 ∧ TBL B t n (540 * n) tb)) ∧ (ir = 0 ∨ (ir = 1 ∧ im = 1 ∧ RDR B t n rest ahead parts total pF pT pW pE))
theorem RC.book {B B' : Nat → Nat → Int} {t t' : Nat → Int} {n n' : Nat} {ir im : Int} {tb re ne rest ahead : Nat → Int} {parts total : Int} {pF pT pW pE cC : Nat → Int} (h : RC B t n ir im tb re ne rest ahead parts total pF pT pW pE cC) : RC B' t' n' 0 0 tb re ne rest ahead parts total pF pT pW pE cC := by
  obtain ⟨h1, h2, h3, h4, h5, h6, h7, h8⟩ := h
  exact ⟨h1, h2, h3, h4, h5, h6, Or.inl rfl, Or.inl rfl⟩
theorem RC.line {B B' : Nat → Nat → Int} {t : Nat → Int} {n : Nat} {ir im : Int} {tb re ne rest ahead : Nat → Int} {parts total : Int} {pF pT pW pE cC : Nat → Int} (h : RC B t n ir im tb re ne rest ahead parts total pF pT pW pE cC) (hs : smT B B') : RC B' t n 0 im tb re ne rest ahead parts total pF pT pW pE cC := by
  obtain ⟨h1, h2, h3, h4, h5, h6, h7, h8⟩ := h
  refine ⟨h1, h2, h3, h4, h5, h6, ?_, Or.inl rfl⟩
  rcases h7 with h7 | ⟨h7, hT⟩
  · exact Or.inl h7
  · exact Or.inr ⟨h7, TBL_cg hs hT⟩
/-- the line and the hand, of both sides -/
def SHT (B : Nat → Nat → Int) (t : Nat → Int) (n fm : Nat) (fF fT fW fE : Nat → Int) : Prop := n ≤ 36 ∧ (∀ i, inT (t i)) ∧ (∀ i, 36 ≤ i → B 17 i = 0) ∧ FX B n fm fF fT fW fE ∧ ∀ i, inI (fF i) ∧ inI (fT i) ∧ inI (fW i) ∧ inI (fE i)
theorem SHT.mono {B B' : Nat → Nat → Int} {t : Nat → Int} {n fm : Nat} {fF fT fW fE : Nat → Int} (h : SHT B t n fm fF fT fW fE) (h17 : B' 17 = B 17) (h19 : B' 19 = B 19) (hE : ∀ e, EV B e → EV B' e) : SHT B' t n fm fF fT fW fE := by
  obtain ⟨h1, h2, h3, h4, h5⟩ := h
  refine ⟨h1, h2, by rw [h17]; exact h3, ?_, h5⟩
  exact FX_cg h1 (fun p _ => by rw [h17]) (fun p _ => by rw [h19]) hE (fun f _ => ⟨rfl, rfl, rfl, rfl⟩) h4
/-- the lines that are taken, of both sides -/
def TKN (B : Nat → Nat → Int) (K : Nat) (te tl kM kW kK : Nat → Int) : Prop := K ≤ 40 ∧ ∀ i, i < K → ∃ P : Nat, tl i = P ∧ kM i = P ∧ P ≤ 36 ∧ ∀ j, j < P → ∃ e : Nat, te (36 * i + j) = e ∧ e ≤ 540 ∧ EV B e ∧ kK (36 * i + j) = kd (B 6) e ∧ kW (36 * i + j) = ((e / 9 : Nat) : Int)
theorem TKN.mono {B B' : Nat → Nat → Int} {K : Nat} {te tl kM kW kK : Nat → Int} (h : TKN B K te tl kM kW kK) (hE : ∀ e, EV B e → EV B' e ∧ kd (B' 6) e = kd (B 6) e) : TKN B' K te tl kM kW kK := by
  obtain ⟨h1, h2⟩ := h
  refine ⟨h1, fun i hi => ?_⟩
  obtain ⟨P, p1, p2, p3, p4⟩ := h2 i hi
  refine ⟨P, p1, p2, p3, fun j hj => ?_⟩
  obtain ⟨e, e1, e2, e3, e4, e5⟩ := p4 j hj
  exact ⟨e, e1, e2, (hE e e3).1, by rw [(hE e e3).2]; exact e4, e5⟩
