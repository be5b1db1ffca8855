/-! both sides read; cost, parts, part -/
abbrev T21 : Type := (Nat → Int) × (Nat → Int) × (Nat → Int) × Int × Int × Int × (Nat → Int) × (Nat → Int) × (Nat → Int) × (Nat → Int) × (Nat → Int) × (Nat → Int) × Int × (Nat → Int) × Nat × (Nat → Int) × Nat × Int × Int × (Nat → Int) × (Nat → Int)
abbrev T16 : Type := Int × Int × (Nat → Int) × (Nat → Int) × (Nat → Int) × (Nat → Int) × (Nat → Int) × Int × Int × (Nat → Int) × (Nat → Int) × (Nat → Int) × (Nat → Int) × Int × Int × Int
theorem z_renew {k : Nat} {B : Nat → Nat → Int} {sc t : Nat → Int} {n fm : Nat} {r : r4} (hG : GD k B sc) (hS : SHT B t n fm r.1 r.2.1 r.2.2.1 r.2.2.2) {tails leads : Nat → Int} {lk lp olen : Int} {oE oC fv heads rests : Nat → Int} {rk rtot rlen : Int} {bg en et co vals lr : Nat → Int} {vc : Int} {now next : Nat → Int} {low high : Int} {seeds lows : Nat → Int} (nA xA : Nat) (h : CC B t n tails leads lk lp olen oE oC fv heads rests rk rtot rlen bg en et co vals lr vc now next low high seeds lows) :
    wp (m_X3_renew (B 0) (B 1) (B 2) (B 3) (B 18 0) (B 4) (B 6) (B 7) (B 8) (B 18 1) (B 9) (B 11) (B 12) (B 13) sc fv heads rests rk rtot rlen bg en et co n t (B 17) (B 19) vals lr vc now nA next xA low high seeds lows) (fun u : T21 => CC B t n tails leads lk lp olen oE oC u.1 u.2.1 u.2.2.1 u.2.2.2.1 u.2.2.2.2.1 u.2.2.2.2.2.1 u.2.2.2.2.2.2.1 u.2.2.2.2.2.2.2.1 u.2.2.2.2.2.2.2.2.1 u.2.2.2.2.2.2.2.2.2.1 u.2.2.2.2.2.2.2.2.2.2.1 u.2.2.2.2.2.2.2.2.2.2.2.1 u.2.2.2.2.2.2.2.2.2.2.2.2.1 u.2.2.2.2.2.2.2.2.2.2.2.2.2.1 u.2.2.2.2.2.2.2.2.2.2.2.2.2.2.2.1 u.2.2.2.2.2.2.2.2.2.2.2.2.2.2.2.2.2.1 u.2.2.2.2.2.2.2.2.2.2.2.2.2.2.2.2.2.2.1 u.2.2.2.2.2.2.2.2.2.2.2.2.2.2.2.2.2.2.2.1 u.2.2.2.2.2.2.2.2.2.2.2.2.2.2.2.2.2.2.2.2 ∧ u.2.2.2.1 = 1 ∧ RDC B t n u.1 u.2.2.1 u.2.2.2.2.1 u.2.2.2.2.2.1 u.2.2.2.2.2.2.1 u.2.2.2.2.2.2.2.1 u.2.2.2.2.2.2.2.2.1 u.2.2.2.2.2.2.2.2.2.1 u.2.2.2.2.2.2.2.2.2.2.1) := by
  obtain ⟨hB, hW, hGS, hsc, -⟩ := hG
  obtain ⟨hn, ht, h36, hF, hFi⟩ := hS
  obtain ⟨h1, h2, h3, h4, h5, h6, h7, h8, h9, ⟨cols, ec, hv⟩, h11, h12⟩ := id h
  rcases h12 with ⟨q1, q2, q3⟩ | ⟨q1, q2, q3, q4⟩
  · refine wp_mono (q_renewC hB hW hGS (inT_I ht) hn (FX_C hF) nA xA h7 h8 h9 hv h4 h5 h6 hsc rfl ec (Or.inl q1)) ?_
    rintro u ⟨g1, g2, g3, g4, g5, g6, g7, g8, g9⟩
    exact ⟨⟨h1, h2, h3, g3, g4, g5, g7, g8, g9, g6, h11, Or.inr ⟨g2, g1, Or.inl q2, Or.inl q3⟩⟩, g2, g1⟩
  · unfold m_X3_renew
    exact wp_gd (by omega) (wp_if (fun c => absurd c (by omega)) (fun _ => wp_some ⟨h, q1, q2⟩))
theorem z_rread {k : Nat} {B : Nat → Nat → Int} {sc t : Nat → Int} {n fm : Nat} {r : r4} (hG : GD k B sc) (hS : SHT B t n fm r.1 r.2.1 r.2.2.1 r.2.2.2) {ir im : Int} {tb re ne rest ahead : Nat → Int} {parts total : Int} {pF pT pW pE : Nat → Int} {cC : Nat → Int} (fo f0 k0 : Int) (h : RC B t n ir im tb re ne rest ahead parts total pF pT pW pE cC) :
    wp (m_X9_read (B 0) (B 3) (B 1) (B 4) (B 9) (B 6) (B 7) (B 8) (B 11) (B 12) (B 18 0) (B 18 1) (B 13 0) (B 13 1) (B 13 2) (B 14) (B 15) n fm t (B 17) r.1 r.2.1 r.2.2.1 r.2.2.2 ir im tb re ne rest ahead parts total pF pT pW pE fo f0 k0) (fun w : T16 => RC B t n w.1 w.2.1 w.2.2.1 w.2.2.2.1 w.2.2.2.2.1 w.2.2.2.2.2.1 w.2.2.2.2.2.2.1 w.2.2.2.2.2.2.2.1 w.2.2.2.2.2.2.2.2.1 w.2.2.2.2.2.2.2.2.2.1 w.2.2.2.2.2.2.2.2.2.2.1 w.2.2.2.2.2.2.2.2.2.2.2.1 w.2.2.2.2.2.2.2.2.2.2.2.2.1 cC ∧ (w.1 = 1 ∧ w.2.1 = 1) ∧ RDR B t n w.2.2.2.2.2.1 w.2.2.2.2.2.2.1 w.2.2.2.2.2.2.2.1 w.2.2.2.2.2.2.2.2.1 w.2.2.2.2.2.2.2.2.2.1 w.2.2.2.2.2.2.2.2.2.2.1 w.2.2.2.2.2.2.2.2.2.2.2.1 w.2.2.2.2.2.2.2.2.2.2.2.2.1 ∧ TBL B t n (540 * n) w.2.2.1) := by
  obtain ⟨hB, hW, hGS, hsc, -⟩ := hG
  obtain ⟨hn, ht, h36, hF, hFi⟩ := hS
  obtain ⟨h1, h2, h3, h4, h5, h6, h7, h8⟩ := h
  refine wp_mono (q_read hB hW hGS (inT_I ht) hn hF hFi h1 h2 h3 h4 h5 rfl rfl rfl rfl rfl h7 h8) ?_
  rintro w ⟨g1, g2, g3, g4, g5, g6⟩
  obtain ⟨P, p1, p2, p3, p4, p5, p6, p7⟩ := id g6
  exact ⟨⟨g3.2, g4, g5, p3.2.1.2, p7.1.2, h6, Or.inr ⟨g2, g3⟩, Or.inr ⟨g1, g2, g6⟩⟩, ⟨g1, g2⟩, g6, g3⟩
/-- the parts of both readings -/
theorem rd_part {B : Nat → Nat → Int} {t : Nat → Int} (hW : GW B) {n : Nat} {fv rests bg en et co vals rest ahead pF pT pW pE : Nat → Int} {total len parts tot2 : Int} (h1 : RDC B t n fv rests total len bg en et co vals) (h2 : RDR B t n rest ahead parts tot2 pF pT pW pE) : ∃ P : Nat, len = P ∧ parts = P ∧ P ≤ 36 ∧ (P = 0 ↔ n = 0 ∨ 134217728 ≤ tot2) ∧ ((268435456 ≤ total ∧ 134217728 ≤ tot2) ∨ (total = tot2 ∧ total < 268435456 ∧ tot2 < 134217728)) ∧ inI total ∧ inI tot2 ∧ ∀ i, i < P → ∃ a b e : Nat, bg i = a ∧ en i = b ∧ et i = e ∧ pF i = a ∧ pT i = b ∧ (e : Int) = 9 * pW i + pE i + 1 ∧ e ≤ 540 ∧ (0 ≤ pW i ∧ pW i ≤ 60) ∧ (-1 ≤ pE i ∧ pE i < 8) ∧ (pW i = 60 → pE i = -1) ∧ PC B t n a b e (co i) := by
  obtain ⟨e1, e2, e3⟩ := read_agree hW h1 h2
  obtain ⟨P, p1, p2, p3, p4⟩ := h1
  obtain ⟨P', q1, q2, q3, q4, q5, q6, q7⟩ := h2
  have hPP : P = P' := by omega
  subst hPP
  have hI2 : inI tot2 := by
    rw [q4]
    exact q3.2.1.2 9
  have hI1 : inI total := by
    rcases e2 with ⟨f1, f2⟩ | ⟨f1, f2, f3⟩
    · by_cases h0 : n = 0
      · have := (p3 h0).2
        omega
      · have hL := (p4 (by omega)).2.2.2.1
        rcases hL with ⟨hL, _⟩ | ⟨hL, _⟩
        · rw [hL]
          decide
        · omega
    · rw [f1]
      exact hI2
  refine ⟨P, p1, q1, p2, ?_, e2, hI1, hI2, ?_⟩
  · constructor
    · intro h0
      exact q5.2.2.2 h0
    · intro h0
      by_cases hP0 : 0 < P
      · have h5 := q5.2.2.1 hP0
        have h6 := q5.1
        rcases h0 with h0 | h0 <;> omega
      · omega
  · intro i hi
    have hn0 : 0 < n := by
      by_cases h0 : n = 0
      · have := (p3 h0).1
        omega
      · omega
    obtain ⟨a, b, e, c1, c2, c3, c4⟩ := (p4 hn0).2.2.2.2.2 i hi
    obtain ⟨d1, d2, d3⟩ := e3 i (by omega)
    obtain ⟨w1, w2, w3⟩ := q6 i hi
    have d3 : et i = 9 * pW i + pE i + 1 := d3
    refine ⟨a, b, e, c1, c2, c3, by rw [← d1]; exact c1, by rw [← d2]; exact c2, by omega, by omega, w1, w2, w3, c4⟩
set_option maxHeartbeats 1000000 in
theorem z_cost {k : Nat} {B : Nat → Nat → Int} {sc t : Nat → Int} {n fm : Nat} {r : r4} (hG : GD k B sc) (hS : SHT B t n fm r.1 r.2.1 r.2.2.1 r.2.2.2) {tails leads : Nat → Int} {lk lp olen : Int} {oE oC fv heads rests : Nat → Int} {rk rtot rlen : Int} {bg en et co vals lr : Nat → Int} {vc : Int} {now next : Nat → Int} {low high : Int} {seeds lows : Nat → Int} (nA xA : Nat) (hC : CC B t n tails leads lk lp olen oE oC fv heads rests rk rtot rlen bg en et co vals lr vc now next low high seeds lows) {ir im : Int} {tb re ne rest ahead : Nat → Int} {parts total : Int} {pF pT pW pE : Nat → Int} {cC : Nat → Int} (code fo f0 k0 : Int) (hR : RC B t n ir im tb re ne rest ahead parts total pF pT pW pE cC) :
    ∃ (u : T21) (w : T16) (rv : Int), inI rv ∧ m_X8_cost (B 0) (B 1) (B 2) (B 3) (B 18 0) (B 4) (B 6) (B 7) (B 8) (B 18 1) (B 9) (B 11) (B 12) (B 13) sc fv heads rests rk rtot rlen bg en et co n t (B 17) (B 19) vals lr vc now nA next xA low high seeds lows = some (rv, u) ∧ m_X9_cost code (B 0) (B 3) (B 1) (B 4) (B 9) (B 6) (B 7) (B 8) (B 11) (B 12) (B 18 0) (B 18 1) (B 13 0) (B 13 1) (B 13 2) (B 14) (B 15) n fm t (B 17) r.1 r.2.1 r.2.2.1 r.2.2.2 ir im tb re ne rest ahead parts total pF pT pW pE fo f0 k0 = some (rv, 0, w) ∧ CC B t n tails leads lk lp olen oE oC u.1 u.2.1 u.2.2.1 u.2.2.2.1 u.2.2.2.2.1 u.2.2.2.2.2.1 u.2.2.2.2.2.2.1 u.2.2.2.2.2.2.2.1 u.2.2.2.2.2.2.2.2.1 u.2.2.2.2.2.2.2.2.2.1 u.2.2.2.2.2.2.2.2.2.2.1 u.2.2.2.2.2.2.2.2.2.2.2.1 u.2.2.2.2.2.2.2.2.2.2.2.2.1 u.2.2.2.2.2.2.2.2.2.2.2.2.2.1 u.2.2.2.2.2.2.2.2.2.2.2.2.2.2.2.1 u.2.2.2.2.2.2.2.2.2.2.2.2.2.2.2.2.2.1 u.2.2.2.2.2.2.2.2.2.2.2.2.2.2.2.2.2.2.1 u.2.2.2.2.2.2.2.2.2.2.2.2.2.2.2.2.2.2.2.1 u.2.2.2.2.2.2.2.2.2.2.2.2.2.2.2.2.2.2.2.2 ∧ RC B t n w.1 w.2.1 w.2.2.1 w.2.2.2.1 w.2.2.2.2.1 w.2.2.2.2.2.1 w.2.2.2.2.2.2.1 w.2.2.2.2.2.2.2.1 w.2.2.2.2.2.2.2.2.1 w.2.2.2.2.2.2.2.2.2.1 w.2.2.2.2.2.2.2.2.2.2.1 w.2.2.2.2.2.2.2.2.2.2.2.1 w.2.2.2.2.2.2.2.2.2.2.2.2.1 cC := by
  obtain ⟨u, eu, hCU, -, hD⟩ := z_renew hG hS nA xA hC
  obtain ⟨w, ew, hRW, -, hE, hT⟩ := z_rread hG hS fo f0 k0 hR
  obtain ⟨P, g1, g2, g3, g4, g5, g6, g7, g8⟩ := rd_part hG.2.1 hD hE
  obtain ⟨u0, u1, u2, u3, u4, u5, u6, u7, u8, u9, u10, u11, u12, u13, u14, u15, u16, u17, u18, u19, u20⟩ := u
  obtain ⟨w0, w1, w2, w3, w4, w5, w6, w7, w8, w9, w10, w11, w12, w13, w14, w15⟩ := w
  have g5 : (268435456 ≤ u4 ∧ 134217728 ≤ w8) ∨ (u4 = w8 ∧ u4 < 268435456 ∧ w8 < 134217728) := g5
  have g6 : inI u4 := g6
  have g7 : inI w8 := g7
  rcases g5 with ⟨f1, f2⟩ | ⟨f1, f2, f3⟩
  · refine ⟨_, _, -1000000, by decide, ?_, ?_, hCU, hRW⟩
    · apply wp_out
      unfold m_X8_cost
      exact wp_eq eu (wp_gd g6 (wp_if (fun c => absurd c (by omega)) (fun _ => wp_some rfl)))
    · apply wp_out
      unfold m_X9_cost
      exact wp_eq ew (wp_gd g7 (wp_if (fun c => absurd c (by omega)) (fun _ => wp_some rfl)))
  · subst f1
    refine ⟨_, _, u4, g6, ?_, ?_, hCU, hRW⟩
    · apply wp_out
      unfold m_X8_cost
      exact wp_eq eu (wp_gd g6 (wp_if (fun _ => wp_some rfl) (fun c => absurd f2 c)))
    · apply wp_out
      unfold m_X9_cost
      exact wp_eq ew (wp_gd g7 (wp_if (fun _ => wp_some rfl) (fun c => absurd f3 c)))
set_option maxHeartbeats 1000000 in
theorem z_parts {k : Nat} {B : Nat → Nat → Int} {sc t : Nat → Int} {n fm : Nat} {r : r4} (hG : GD k B sc) (hS : SHT B t n fm r.1 r.2.1 r.2.2.1 r.2.2.2) {tails leads : Nat → Int} {lk lp olen : Int} {oE oC fv heads rests : Nat → Int} {rk rtot rlen : Int} {bg en et co vals lr : Nat → Int} {vc : Int} {now next : Nat → Int} {low high : Int} {seeds lows : Nat → Int} (nA xA : Nat) (hC : CC B t n tails leads lk lp olen oE oC fv heads rests rk rtot rlen bg en et co vals lr vc now next low high seeds lows) {ir im : Int} {tb re ne rest ahead : Nat → Int} {parts total : Int} {pF pT pW pE : Nat → Int} {cC : Nat → Int} (code fo f0 k0 : Int) (hR : RC B t n ir im tb re ne rest ahead parts total pF pT pW pE cC) :
    ∃ (u : T21) (w : T16) (rv : Int), inI rv ∧ m_X8_parts (B 0) (B 1) (B 2) (B 3) (B 18 0) (B 4) (B 6) (B 7) (B 8) (B 18 1) (B 9) (B 11) (B 12) (B 13) sc fv heads rests rk rtot rlen bg en et co n t (B 17) (B 19) vals lr vc now nA next xA low high seeds lows = some (rv, u) ∧ m_X9_parts code (B 0) (B 3) (B 1) (B 4) (B 9) (B 6) (B 7) (B 8) (B 11) (B 12) (B 18 0) (B 18 1) (B 13 0) (B 13 1) (B 13 2) (B 14) (B 15) n fm t (B 17) r.1 r.2.1 r.2.2.1 r.2.2.2 ir im tb re ne rest ahead parts total pF pT pW pE fo f0 k0 = some (rv, 0, w) ∧ CC B t n tails leads lk lp olen oE oC u.1 u.2.1 u.2.2.1 u.2.2.2.1 u.2.2.2.2.1 u.2.2.2.2.2.1 u.2.2.2.2.2.2.1 u.2.2.2.2.2.2.2.1 u.2.2.2.2.2.2.2.2.1 u.2.2.2.2.2.2.2.2.2.1 u.2.2.2.2.2.2.2.2.2.2.1 u.2.2.2.2.2.2.2.2.2.2.2.1 u.2.2.2.2.2.2.2.2.2.2.2.2.1 u.2.2.2.2.2.2.2.2.2.2.2.2.2.1 u.2.2.2.2.2.2.2.2.2.2.2.2.2.2.2.1 u.2.2.2.2.2.2.2.2.2.2.2.2.2.2.2.2.2.1 u.2.2.2.2.2.2.2.2.2.2.2.2.2.2.2.2.2.2.1 u.2.2.2.2.2.2.2.2.2.2.2.2.2.2.2.2.2.2.2.1 u.2.2.2.2.2.2.2.2.2.2.2.2.2.2.2.2.2.2.2.2 ∧ RC B t n w.1 w.2.1 w.2.2.1 w.2.2.2.1 w.2.2.2.2.1 w.2.2.2.2.2.1 w.2.2.2.2.2.2.1 w.2.2.2.2.2.2.2.1 w.2.2.2.2.2.2.2.2.1 w.2.2.2.2.2.2.2.2.2.1 w.2.2.2.2.2.2.2.2.2.2.1 w.2.2.2.2.2.2.2.2.2.2.2.1 w.2.2.2.2.2.2.2.2.2.2.2.2.1 cC := by
  obtain ⟨u, eu, hCU, -, hD⟩ := z_renew hG hS nA xA hC
  obtain ⟨w, ew, hRW, -, hE, hT⟩ := z_rread hG hS fo f0 k0 hR
  obtain ⟨P, g1, g2, g3, g4, g5, g6, g7, g8⟩ := rd_part hG.2.1 hD hE
  obtain ⟨u0, u1, u2, u3, u4, u5, u6, u7, u8, u9, u10, u11, u12, u13, u14, u15, u16, u17, u18, u19, u20⟩ := u
  obtain ⟨w0, w1, w2, w3, w4, w5, w6, w7, w8, w9, w10, w11, w12, w13, w14, w15⟩ := w
  have g1 : u5 = (P : Int) := g1
  have g2 : w7 = (P : Int) := g2
  refine ⟨_, _, (P : Int), by omega, ?_, ?_, hCU, hRW⟩
  · apply wp_out
    unfold m_X8_parts
    refine wp_eq eu (wp_some ?_)
    rw [g1]
  · apply wp_out
    unfold m_X9_parts
    refine wp_eq ew (wp_some ?_)
    rw [g2]
/-- whether a part of the reading is fixed -/
theorem q_isFixed {fm : Nat} (hfm : fm ≤ 36) {fF fT pF pT : Nat → Int} {i : Nat} (hi : i < 36) (hFi : ∀ f, inI (fF f) ∧ inI (fT f)) (hp : inI (pF i) ∧ inI (pT i)) {x1 mm : Int} (e1 : x1 = i) (em : mm = fm) : wp (m_X9_isFixed x1 mm fF fT pF pT) (fun v => (v = 1 ∧ ∃ f, f < fm ∧ fF f = pF i ∧ fT f = pT i) ∨ (v = 0 ∧ ∀ f, f < fm → ¬ (fF f = pF i ∧ fT f = pT i))) := by
  unfold m_X9_isFixed
  refine wp_bind (P := fun u : Nat × Int => (u.1 = 1 ∧ ∀ f, f < fm → ¬ (fF f = pF i ∧ fT f = pT i)) ∨ (u.1 ≠ 1 ∧ ∃ f, f < fm ∧ fF f = pF i ∧ fT f = pT i)) (wp_loop (fun k y => y = (k : Int) ∧ ∀ f, f < k → ¬ (fF f = pF i ∧ fT f = pT i)) fm (by omega) ⟨rfl, fun f hf => absurd hf (by omega)⟩ ?_) ?_
  · intro k y hk hs
    obtain ⟨ey, hs⟩ := hs
    unfold m_X9_isFixed_2
    rw [show y.toNat = k by omega, show x1.toNat = i by omega]
    have hnext : ¬ (fF k = pF i ∧ fT k = pT i) → ∀ f, f < k + 1 → ¬ (fF f = pF i ∧ fT f = pT i) := by
      intro hno f hf
      by_cases hfk : f = k
      · rw [hfk]
        exact hno
      · exact hs f (by omega)
    refine wp_gd (by omega) (wp_gd (by omega) (wp_if (fun c1 => ?_) (fun c1 => ?_)))
    · refine wp_end (by decide) (Or.inl ⟨rfl, fun f hf => hs f (by omega)⟩)
    · refine wp_gd (by omega) (wp_gd (by omega) (wp_gd (hFi k).1 (wp_gd hp.1 (wp_if (fun c2 => ?_) (fun c2 => ?_)))))
      · refine wp_gd (by omega) (wp_gd (by omega) (wp_gd (hFi k).2 (wp_gd hp.2 (wp_if (fun c3 => ?_) (fun c3 => ?_)))))
        · exact wp_end (by decide) (Or.inr ⟨by show (2 : Nat) ≠ 1; decide, k, by omega, c2, c3⟩)
        · exact wp_vl (wp_go ⟨by omega, by show y + 1 = _; omega, hnext (fun z => c3 z.2)⟩)
      · exact wp_vl (wp_go ⟨by omega, by show y + 1 = _; omega, hnext (fun z => c2 z.1)⟩)
  · rintro ⟨t2, x2⟩ hu
    rcases hu with ⟨hu, hall⟩ | ⟨hu, hex⟩
    · have hu : t2 = 1 := hu
      subst hu
      show wp (if (1 : Nat) = 1 then _ else _) _
      rw [if_pos rfl]
      exact wp_some (Or.inr ⟨rfl, hall⟩)
    · have hu : t2 ≠ 1 := hu
      show wp (if t2 = 1 then _ else _) _
      rw [if_neg hu]
      exact wp_some (Or.inl ⟨rfl, hex⟩)
theorem FX_fixed {B : Nat → Nat → Int} {n fm : Nat} {fF fT fW fE : Nat → Int} (hn : n ≤ 36) (h : FX B n fm fF fT fW fE) {a b e : Nat} (hab : a < b ∧ b ≤ n) (he : e ≤ 540) (hA : B 19 a = 0 ∨ B 19 a = 1024 * (b : Int) + e) : (∃ f, f < fm ∧ fF f = a ∧ fT f = b) ↔ B 19 a ≠ 0 := by
  obtain ⟨h1, h2, h3, h4⟩ := h
  constructor
  · rintro ⟨f, hf, ea, eb⟩
    obtain ⟨b1, b2, b3, b4, -⟩ := h2 f hf
    rw [ea, show Int.toNat (a : Int) = a by omega] at b4
    omega
  · intro h0
    obtain ⟨f, hf, ea⟩ := h3 a (by omega) h0
    obtain ⟨b1, b2, b3, b4, -⟩ := h2 f hf
    rw [ea, show Int.toNat (a : Int) = a by omega] at b4
    exact ⟨f, hf, ea, by omega⟩
theorem q_pcost {B : Nat → Nat → Int} {t : Nat → Int} (hB : GB B) (hW : GW B) {n : Nat} (hn : n ≤ 36) {tb : Nat → Int} (hT : TBL B t n (540 * n) tb) {a b e : Nat} {c w en' : Int} (hP : PC B t n a b e c) (ee : (e : Int) = 9 * w + en' + 1) (hw : 0 ≤ w ∧ w ≤ 60) (he : -1 ≤ en' ∧ en' < 8) (hwe : w = 60 → en' = -1) : m_X9_costOf a b w en' (B 7) (B 8) (B 11) (B 12) (B 13 1) (B 13 2) tb = some c := by
  obtain ⟨⟨hab, hbn⟩, hev, hal, hcl, hmin⟩ := hP
  have hE0 := hW.2.1
  have hw' : (0 ≤ w ∧ w < B 18 0) ∨ w = 60 := by
    rcases hev with hev | ⟨_, _, hev, _⟩ <;> omega
  have he' : -1 ≤ en' ∧ en' < B 18 1 := by
    rcases hev with hev | ⟨_, _, _, hev | hev⟩ <;> omega
  obtain ⟨v, ev, hv, -⟩ := q_rcost hB hW hn hT hab hbn hw' he' hwe (x1 := (a : Int)) (x2 := (b : Int)) (gu := B 13 1) (ba := B 13 2) rfl rfl rfl rfl
  rw [← ee] at hv
  rcases hv hev with ⟨_, hno⟩ | ⟨_, h1, h2⟩
  · exact absurd hcl (hno c)
  · have a1 := h2 c hcl
    have a2 := hmin v h1
    rw [ev, show v = c by omega]
set_option maxHeartbeats 2000000 in
theorem z_part {k : Nat} {B : Nat → Nat → Int} {sc t : Nat → Int} {n fm : Nat} {r : r4} (hG : GD k B sc) (hS : SHT B t n fm r.1 r.2.1 r.2.2.1 r.2.2.2) {tails leads : Nat → Int} {lk lp olen : Int} {oE oC fv heads rests : Nat → Int} {rk rtot rlen : Int} {bg en et co vals lr : Nat → Int} {vc : Int} {now next : Nat → Int} {low high : Int} {seeds lows : Nat → Int} (nA xA : Nat) (hC : CC B t n tails leads lk lp olen oE oC fv heads rests rk rtot rlen bg en et co vals lr vc now next low high seeds lows) {ir im : Int} {tb re ne rest ahead : Nat → Int} {parts total : Int} {pF pT pW pE : Nat → Int} {cC : Nat → Int} (code fo f0 k0 : Int) (hR : RC B t n ir im tb re ne rest ahead parts total pF pT pW pE cC) {x1 x2 : Int} (h1 : inI x1) (h2 : inI x2) :
    ∃ (u : T21) (w : T16) (cd rv rv' : Int), ANS cd rv rv' ∧ m_X8_part x1 x2 (B 0) (B 1) (B 2) (B 3) (B 18 0) (B 4) (B 6) (B 7) (B 8) (B 18 1) (B 9) (B 11) (B 12) (B 13) sc fv heads rests rk rtot rlen bg en et co n t (B 17) (B 19) vals lr vc now nA next xA low high seeds lows = some (cd, rv, u) ∧ m_X9_part x1 x2 code (B 0) (B 3) (B 1) (B 4) (B 9) (B 6) (B 7) (B 8) (B 11) (B 12) (B 18 0) (B 18 1) (B 13 0) (B 13 1) (B 13 2) (B 14) (B 15) n fm t (B 17) r.1 r.2.1 r.2.2.1 r.2.2.2 ir im tb re ne rest ahead parts total pF pT pW pE fo f0 k0 = some (rv', cd, w) ∧ CC B t n tails leads lk lp olen oE oC u.1 u.2.1 u.2.2.1 u.2.2.2.1 u.2.2.2.2.1 u.2.2.2.2.2.1 u.2.2.2.2.2.2.1 u.2.2.2.2.2.2.2.1 u.2.2.2.2.2.2.2.2.1 u.2.2.2.2.2.2.2.2.2.1 u.2.2.2.2.2.2.2.2.2.2.1 u.2.2.2.2.2.2.2.2.2.2.2.1 u.2.2.2.2.2.2.2.2.2.2.2.2.1 u.2.2.2.2.2.2.2.2.2.2.2.2.2.1 u.2.2.2.2.2.2.2.2.2.2.2.2.2.2.2.1 u.2.2.2.2.2.2.2.2.2.2.2.2.2.2.2.2.2.1 u.2.2.2.2.2.2.2.2.2.2.2.2.2.2.2.2.2.2.1 u.2.2.2.2.2.2.2.2.2.2.2.2.2.2.2.2.2.2.2.1 u.2.2.2.2.2.2.2.2.2.2.2.2.2.2.2.2.2.2.2.2 ∧ RC B t n w.1 w.2.1 w.2.2.1 w.2.2.2.1 w.2.2.2.2.1 w.2.2.2.2.2.1 w.2.2.2.2.2.2.1 w.2.2.2.2.2.2.2.1 w.2.2.2.2.2.2.2.2.1 w.2.2.2.2.2.2.2.2.2.1 w.2.2.2.2.2.2.2.2.2.2.1 w.2.2.2.2.2.2.2.2.2.2.2.1 w.2.2.2.2.2.2.2.2.2.2.2.2.1 cC := by
  obtain ⟨u, eu, hCU, -, hD⟩ := z_renew hG hS nA xA hC
  obtain ⟨w, ew, hRW, -, hE, hT⟩ := z_rread hG hS fo f0 k0 hR
  obtain ⟨P, g1, g2, g3, g4, g5, g6, g7, g8⟩ := rd_part hG.2.1 hD hE
  obtain ⟨u0, u1, u2, u3, u4, u5, u6, u7, u8, u9, u10, u11, u12, u13, u14, u15, u16, u17, u18, u19, u20⟩ := u
  obtain ⟨w0, w1, w2, w3, w4, w5, w6, w7, w8, w9, w10, w11, w12, w13, w14, w15⟩ := w
  have g1 : u5 = (P : Int) := g1
  have g2 : w7 = (P : Int) := g2
  have hT : TBL B t n (540 * n) w2 := hT
  obtain ⟨hB, hW, hGS, hsc, -⟩ := hG
  obtain ⟨hn, ht, h36, hF, hFi⟩ := hS
  by_cases hx : 0 ≤ x1 ∧ x1 < P
  · obtain ⟨i, ei⟩ : ∃ i : Nat, x1 = i := ⟨x1.toNat, by omega⟩
    have et1 : x1.toNat = i := by omega
    obtain ⟨a, b, e, c1, c2, c3, c4, c5, c6, c7, c8, c9, c10, hPC⟩ := g8 i (by omega)
    have c1 : u6 i = (a : Int) := c1
    have c2 : u7 i = (b : Int) := c2
    have c3 : u8 i = (e : Int) := c3
    have c4 : w9 i = (a : Int) := c4
    have c5 : w10 i = (b : Int) := c5
    have c6 : (e : Int) = 9 * w11 i + w12 i + 1 := c6
    have c8 : 0 ≤ w11 i ∧ w11 i ≤ 60 := c8
    have c9 : -1 ≤ w12 i ∧ w12 i < 8 := c9
    have c10 : w11 i = 60 → w12 i = -1 := c10
    have hPC : PC B t n a b e (u9 i) := hPC
    obtain ⟨⟨hab, hbn⟩, hev, hal, hcl, hmin⟩ := id hPC
    have hclass : ∀ (cd rv : Int), wp (gd (inI x2) <| if x2 = 0 then gd (0 ≤ x1 ∧ x1 < 36) <| some (0, u6 x1.toNat) else if x2 = 1 then gd (0 ≤ x1 ∧ x1 < 36) <| some (0, u7 x1.toNat) else if x2 = 2 then gd (0 ≤ x1 ∧ x1 < 36) <| (m_X8_wordOf (u8 x1.toNat)).bind fun r => some (0, r) else if x2 = 3 then gd (0 ≤ x1 ∧ x1 < 36) <| (m_X8_endingOf (u8 x1.toNat)).bind fun r => some (0, r) else if x2 = 4 then gd (0 ≤ x1 ∧ x1 < 36) <| (m_X1_kindOf (u8 x1.toNat) (B 6)).bind fun r => some (0, r) else if x2 = 5 then gd (0 ≤ x1 ∧ x1 < 36) <| some (0, u9 x1.toNat) else if x2 = 6 then gd (0 ≤ x1 ∧ x1 < 36) <| gd (0 ≤ u6 x1.toNat ∧ u6 x1.toNat < 36) <| gd (inI (B 19 (u6 x1.toNat).toNat)) <| if B 19 (u6 x1.toNat).toNat = 0 then some (0, 0) else some (0, 1) else some (1, 0)) (fun v => v = (cd, rv)) → m_X8_part x1 x2 (B 0) (B 1) (B 2) (B 3) (B 18 0) (B 4) (B 6) (B 7) (B 8) (B 18 1) (B 9) (B 11) (B 12) (B 13) sc fv heads rests rk rtot rlen bg en et co n t (B 17) (B 19) vals lr vc now nA next xA low high seeds lows = some (cd, rv, (u0, u1, u2, u3, u4, u5, u6, u7, u8, u9, u10, u11, u12, u13, u14, u15, u16, u17, u18, u19, u20)) := by
      intro cd rv hw
      obtain ⟨v, hv, ev⟩ := hw
      rw [ev] at hv
      apply wp_out
      unfold m_X8_part
      refine wp_eq eu (wp_gd h1 (wp_if (fun c => absurd c (by omega)) (fun _ => wp_gd (by omega) (wp_if (fun _ => ?_) (fun c => absurd (by omega) c)))))
      obtain ⟨hi2, hv⟩ := gd_e hv
      refine wp_gd hi2 (wp_if (fun c => ?_) (fun c => ?_))
      · obtain ⟨q1, hv⟩ := gd_e (if_p hv c)
        cases hv
        exact wp_gd q1 (wp_some rfl)
      · have hv := if_n hv c
        refine wp_if (fun c => ?_) (fun c => ?_)
        · obtain ⟨q1, hv⟩ := gd_e (if_p hv c)
          cases hv
          exact wp_gd q1 (wp_some rfl)
        · have hv := if_n hv c
          refine wp_if (fun c => ?_) (fun c => ?_)
          · obtain ⟨q1, hv⟩ := gd_e (if_p hv c)
            obtain ⟨q2, q3, hv⟩ := bd_e hv
            cases hv
            exact wp_gd q1 (wp_eq q3 (wp_some rfl))
          · have hv := if_n hv c
            refine wp_if (fun c => ?_) (fun c => ?_)
            · obtain ⟨q1, hv⟩ := gd_e (if_p hv c)
              obtain ⟨q2, q3, hv⟩ := bd_e hv
              cases hv
              exact wp_gd q1 (wp_eq q3 (wp_some rfl))
            · have hv := if_n hv c
              refine wp_if (fun c => ?_) (fun c => ?_)
              · obtain ⟨q1, hv⟩ := gd_e (if_p hv c)
                obtain ⟨q2, q3, hv⟩ := bd_e hv
                cases hv
                exact wp_gd q1 (wp_eq q3 (wp_some rfl))
              · have hv := if_n hv c
                refine wp_if (fun c => ?_) (fun c => ?_)
                · obtain ⟨q1, hv⟩ := gd_e (if_p hv c)
                  cases hv
                  exact wp_gd q1 (wp_some rfl)
                · have hv := if_n hv c
                  refine wp_if (fun c => ?_) (fun c => ?_)
                  · obtain ⟨q1, hv⟩ := gd_e (if_p hv c)
                    obtain ⟨q2, hv⟩ := gd_e hv
                    obtain ⟨q3, hv⟩ := gd_e hv
                    refine wp_gd q1 (wp_gd q2 (wp_gd q3 (wp_if (fun c => ?_) (fun c => ?_))))
                    · cases if_p hv c
                      exact wp_some rfl
                    · cases if_n hv c
                      exact wp_some rfl
                  · have hv := if_n hv c
                    cases hv
                    exact wp_some rfl
    have hg : (0 : Int) ≤ x1 ∧ x1 < 36 := by omega
    have fin : ∀ (cd rv rv' : Int), ANS cd rv rv' → m_X8_part x1 x2 (B 0) (B 1) (B 2) (B 3) (B 18 0) (B 4) (B 6) (B 7) (B 8) (B 18 1) (B 9) (B 11) (B 12) (B 13) sc fv heads rests rk rtot rlen bg en et co n t (B 17) (B 19) vals lr vc now nA next xA low high seeds lows = some (cd, rv, (u0, u1, u2, u3, u4, u5, u6, u7, u8, u9, u10, u11, u12, u13, u14, u15, u16, u17, u18, u19, u20)) → m_X9_part x1 x2 code (B 0) (B 3) (B 1) (B 4) (B 9) (B 6) (B 7) (B 8) (B 11) (B 12) (B 18 0) (B 18 1) (B 13 0) (B 13 1) (B 13 2) (B 14) (B 15) n fm t (B 17) r.1 r.2.1 r.2.2.1 r.2.2.2 ir im tb re ne rest ahead parts total pF pT pW pE fo f0 k0 = some (rv', cd, (w0, w1, w2, w3, w4, w5, w6, w7, w8, w9, w10, w11, w12, w13, w14, w15)) → ∃ (u : T21) (w : T16) (cd rv rv' : Int), ANS cd rv rv' ∧ m_X8_part x1 x2 (B 0) (B 1) (B 2) (B 3) (B 18 0) (B 4) (B 6) (B 7) (B 8) (B 18 1) (B 9) (B 11) (B 12) (B 13) sc fv heads rests rk rtot rlen bg en et co n t (B 17) (B 19) vals lr vc now nA next xA low high seeds lows = some (cd, rv, u) ∧ m_X9_part x1 x2 code (B 0) (B 3) (B 1) (B 4) (B 9) (B 6) (B 7) (B 8) (B 11) (B 12) (B 18 0) (B 18 1) (B 13 0) (B 13 1) (B 13 2) (B 14) (B 15) n fm t (B 17) r.1 r.2.1 r.2.2.1 r.2.2.2 ir im tb re ne rest ahead parts total pF pT pW pE fo f0 k0 = some (rv', cd, w) ∧ CC B t n tails leads lk lp olen oE oC u.1 u.2.1 u.2.2.1 u.2.2.2.1 u.2.2.2.2.1 u.2.2.2.2.2.1 u.2.2.2.2.2.2.1 u.2.2.2.2.2.2.2.1 u.2.2.2.2.2.2.2.2.1 u.2.2.2.2.2.2.2.2.2.1 u.2.2.2.2.2.2.2.2.2.2.1 u.2.2.2.2.2.2.2.2.2.2.2.1 u.2.2.2.2.2.2.2.2.2.2.2.2.1 u.2.2.2.2.2.2.2.2.2.2.2.2.2.1 u.2.2.2.2.2.2.2.2.2.2.2.2.2.2.2.1 u.2.2.2.2.2.2.2.2.2.2.2.2.2.2.2.2.2.1 u.2.2.2.2.2.2.2.2.2.2.2.2.2.2.2.2.2.2.1 u.2.2.2.2.2.2.2.2.2.2.2.2.2.2.2.2.2.2.2.1 u.2.2.2.2.2.2.2.2.2.2.2.2.2.2.2.2.2.2.2.2 ∧ RC B t n w.1 w.2.1 w.2.2.1 w.2.2.2.1 w.2.2.2.2.1 w.2.2.2.2.2.1 w.2.2.2.2.2.2.1 w.2.2.2.2.2.2.2.1 w.2.2.2.2.2.2.2.2.1 w.2.2.2.2.2.2.2.2.2.1 w.2.2.2.2.2.2.2.2.2.2.1 w.2.2.2.2.2.2.2.2.2.2.2.1 w.2.2.2.2.2.2.2.2.2.2.2.2.1 cC := fun cd rv rv' q1 q2 q3 => ⟨_, _, cd, rv, rv', q1, q2, q3, hCU, hRW⟩
    have hbg : (0 : Int) ≤ u6 x1.toNat ∧ u6 x1.toNat < 36 := by rw [et1, c1]; omega
    have hkd := kd_bd hW hev
    have hcb := CL_bd hB hW hev hcl
    have href : ∀ (cd rv : Int), wp (gd (inI x2) <| if x2 = 0 then gd (0 ≤ x1 ∧ x1 < 36) <| some (w9 x1.toNat, 0) else if x2 = 1 then gd (0 ≤ x1 ∧ x1 < 36) <| some (w10 x1.toNat, 0) else if x2 = 2 then gd (0 ≤ x1 ∧ x1 < 36) <| gd (inI (w11 x1.toNat)) <| (if w11 x1.toNat = 60 then some ((-1 : Int), (0 : Int)) else gd (0 ≤ x1 ∧ x1 < 36) <| some (w11 x1.toNat, 0)) else if x2 = 3 then gd (0 ≤ x1 ∧ x1 < 36) <| some (w12 x1.toNat, 0) else if x2 = 4 then gd (0 ≤ x1 ∧ x1 < 36) <| (m_X9_kindOf (w11 x1.toNat) (B 6)).bind fun r => some (r, 0) else if x2 = 5 then gd (0 ≤ x1 ∧ x1 < 36) <| (m_X9_costOf (w9 x1.toNat) (w10 x1.toNat) (w11 x1.toNat) (w12 x1.toNat) (B 7) (B 8) (B 11) (B 12) (B 13 1) (B 13 2) w2).bind fun r => some (r, 0) else if x2 = 6 then (m_X9_isFixed x1 fm r.1 r.2.1 w9 w10).bind fun r => gd (inI r) <| (if r = 0 then some (0, 0) else some (1, 0)) else some (0, 1)) (fun v => v = (rv, cd)) → m_X9_part x1 x2 code (B 0) (B 3) (B 1) (B 4) (B 9) (B 6) (B 7) (B 8) (B 11) (B 12) (B 18 0) (B 18 1) (B 13 0) (B 13 1) (B 13 2) (B 14) (B 15) n fm t (B 17) r.1 r.2.1 r.2.2.1 r.2.2.2 ir im tb re ne rest ahead parts total pF pT pW pE fo f0 k0 = some (rv, cd, (w0, w1, w2, w3, w4, w5, w6, w7, w8, w9, w10, w11, w12, w13, w14, w15)) := by
      intro cd rv hw
      obtain ⟨v, hv, ev⟩ := hw
      rw [ev] at hv
      apply wp_out
      unfold m_X9_part
      refine wp_eq ew (wp_gd h1 (wp_if (fun c => absurd c (by omega)) (fun _ => wp_gd (by omega) (wp_if (fun _ => ?_) (fun c => absurd (by omega) c)))))
      obtain ⟨hi2, hv⟩ := gd_e hv
      refine wp_gd hi2 (wp_if (fun c => ?_) (fun c => ?_))
      · obtain ⟨q1, hv⟩ := gd_e (if_p hv c)
        cases hv
        exact wp_gd q1 (wp_some rfl)
      · have hv := if_n hv c
        refine wp_if (fun c => ?_) (fun c => ?_)
        · obtain ⟨q1, hv⟩ := gd_e (if_p hv c)
          cases hv
          exact wp_gd q1 (wp_some rfl)
        · have hv := if_n hv c
          refine wp_if (fun c => ?_) (fun c => ?_)
          · obtain ⟨q1, hv⟩ := gd_e (if_p hv c)
            obtain ⟨q2, hv⟩ := gd_e hv
            refine wp_gd q1 (wp_gd q2 (wp_if (fun c => ?_) (fun c => ?_)))
            · cases if_p hv c
              exact wp_some rfl
            · obtain ⟨q3, hv⟩ := gd_e (if_n hv c)
              cases hv
              exact wp_gd q3 (wp_some rfl)
          · have hv := if_n hv c
            refine wp_if (fun c => ?_) (fun c => ?_)
            · obtain ⟨q1, hv⟩ := gd_e (if_p hv c)
              cases hv
              exact wp_gd q1 (wp_some rfl)
            · have hv := if_n hv c
              refine wp_if (fun c => ?_) (fun c => ?_)
              · obtain ⟨q1, hv⟩ := gd_e (if_p hv c)
                obtain ⟨q2, q3, hv⟩ := bd_e hv
                cases hv
                exact wp_gd q1 (wp_eq q3 (wp_some rfl))
              · have hv := if_n hv c
                refine wp_if (fun c => ?_) (fun c => ?_)
                · obtain ⟨q1, hv⟩ := gd_e (if_p hv c)
                  obtain ⟨q2, q3, hv⟩ := bd_e hv
                  cases hv
                  exact wp_gd q1 (wp_gd q1 (wp_gd q1 (wp_gd q1 (wp_eq q3 (wp_some rfl)))))
                · have hv := if_n hv c
                  refine wp_if (fun c => ?_) (fun c => ?_)
                  · obtain ⟨q2, q3, hv⟩ := bd_e (if_p hv c)
                    obtain ⟨q4, hv⟩ := gd_e hv
                    refine wp_eq q3 (wp_gd q4 (wp_if (fun c => ?_) (fun c => ?_)))
                    · cases if_p hv c
                      exact wp_some rfl
                    · cases if_n hv c
                      exact wp_some rfl
                  · have hv := if_n hv c
                    cases hv
                    exact wp_eq rfl (wp_some rfl)
    by_cases k0' : x2 = 0
    · subst k0'
      refine fin 0 a a (Or.inr ⟨rfl, rfl, by omega⟩) (hclass 0 a ?_) (href 0 a ?_)
      · exact wp_gd (by decide) (wp_if (fun _ => wp_gd hg (wp_some (by rw [et1, c1]))) (fun c => absurd rfl c))
      · exact wp_gd (by decide) (wp_if (fun _ => wp_gd hg (wp_some (by rw [et1, c4]))) (fun c => absurd rfl c))
    by_cases k1' : x2 = 1
    · subst k1'
      refine fin 0 b b (Or.inr ⟨rfl, rfl, by omega⟩) (hclass 0 b ?_) (href 0 b ?_)
      · exact wp_gd (by decide) (wp_if (fun c => absurd c (by decide)) (fun _ => wp_if (fun _ => wp_gd hg (wp_some (by rw [et1, c2]))) (fun c => absurd rfl c)))
      · exact wp_gd (by decide) (wp_if (fun c => absurd c (by decide)) (fun _ => wp_if (fun _ => wp_gd hg (wp_some (by rw [et1, c5]))) (fun c => absurd rfl c)))
    by_cases k2' : x2 = 2
    · subst k2'
      have hwI : inI (w11 x1.toNat) := by rw [et1]; omega
      by_cases h540 : e = 540
      · have hw60 : w11 i = 60 := by omega
        refine fin 0 (-1) (-1) (Or.inr ⟨rfl, rfl, by decide⟩) (hclass 0 (-1) ?_) (href 0 (-1) ?_)
        · refine wp_gd (by decide) (wp_if (fun c => absurd c (by decide)) (fun _ => wp_if (fun c => absurd c (by decide)) (fun _ => wp_if (fun _ => wp_gd hg ?_) (fun c => absurd rfl c))))
          rw [et1, c3, h540]
          exact wp_eq q_wordOfG (wp_some rfl)
        · refine wp_gd (by decide) (wp_if (fun c => absurd c (by decide)) (fun _ => wp_if (fun c => absurd c (by decide)) (fun _ => wp_if (fun _ => wp_gd hg (wp_gd hwI ?_)) (fun c => absurd rfl c))))
          rw [et1]
          exact wp_if (fun _ => wp_some rfl) (fun c => absurd hw60 c)
      · refine fin 0 (w11 i) (w11 i) (Or.inr ⟨rfl, rfl, by omega⟩) (hclass 0 (w11 i) ?_) (href 0 (w11 i) ?_)
        · refine wp_gd (by decide) (wp_if (fun c => absurd c (by decide)) (fun _ => wp_if (fun c => absurd c (by decide)) (fun _ => wp_if (fun _ => wp_gd hg ?_) (fun c => absurd rfl c))))
          rw [et1, c3]
          refine wp_eq (q_wordOf (by omega)) (wp_some ?_)
          rw [show (e : Int) / 9 = w11 i by omega]
        · refine wp_gd (by decide) (wp_if (fun c => absurd c (by decide)) (fun _ => wp_if (fun c => absurd c (by decide)) (fun _ => wp_if (fun _ => wp_gd hg (wp_gd hwI ?_)) (fun c => absurd rfl c))))
          rw [et1]
          exact wp_if (fun c => absurd c (by omega)) (fun _ => wp_gd hg (wp_some rfl))
    by_cases k3' : x2 = 3
    · subst k3'
      refine fin 0 (w12 i) (w12 i) (Or.inr ⟨rfl, rfl, by omega⟩) (hclass 0 (w12 i) ?_) (href 0 (w12 i) ?_)
      · refine wp_gd (by decide) (wp_if (fun c => absurd c (by decide)) (fun _ => wp_if (fun c => absurd c (by decide)) (fun _ => wp_if (fun c => absurd c (by decide)) (fun _ => wp_if (fun _ => wp_gd hg ?_) (fun c => absurd rfl c)))))
        rw [et1, c3]
        by_cases h540 : e = 540
        · rw [h540]
          refine wp_eq q_endingOfG (wp_some ?_)
          rw [c10 (by omega)]
        · refine wp_eq (q_endingOf (by omega)) (wp_some ?_)
          rw [show (e : Int) % 9 - 1 = w12 i by omega]
      · refine wp_gd (by decide) (wp_if (fun c => absurd c (by decide)) (fun _ => wp_if (fun c => absurd c (by decide)) (fun _ => wp_if (fun c => absurd c (by decide)) (fun _ => wp_if (fun _ => wp_gd hg ?_) (fun c => absurd rfl c)))))
        rw [et1]
        exact wp_some rfl
    by_cases k4' : x2 = 4
    · subst k4'
      refine fin 0 (kd (B 6) e) (kd (B 6) e) (Or.inr ⟨rfl, rfl, by omega⟩) (hclass 0 _ ?_) (href 0 _ ?_)
      · refine wp_gd (by decide) (wp_if (fun c => absurd c (by decide)) (fun _ => wp_if (fun c => absurd c (by decide)) (fun _ => wp_if (fun c => absurd c (by decide)) (fun _ => wp_if (fun c => absurd c (by decide)) (fun _ => wp_if (fun _ => wp_gd hg ?_) (fun c => absurd rfl c))))))
        rw [et1, c3]
        exact wp_eq (q_kindOf (by omega)) (wp_some rfl)
      · refine wp_gd (by decide) (wp_if (fun c => absurd c (by decide)) (fun _ => wp_if (fun c => absurd c (by decide)) (fun _ => wp_if (fun c => absurd c (by decide)) (fun _ => wp_if (fun c => absurd c (by decide)) (fun _ => wp_if (fun _ => wp_gd hg ?_) (fun c => absurd rfl c))))))
        rw [et1, c6]
        exact wp_eq (q_rkind c8 c9 c10) (wp_some rfl)
    by_cases k5' : x2 = 5
    · subst k5'
      refine fin 0 (u9 i) (u9 i) (Or.inr ⟨rfl, rfl, by omega⟩) (hclass 0 _ ?_) (href 0 _ ?_)
      · refine wp_gd (by decide) (wp_if (fun c => absurd c (by decide)) (fun _ => wp_if (fun c => absurd c (by decide)) (fun _ => wp_if (fun c => absurd c (by decide)) (fun _ => wp_if (fun c => absurd c (by decide)) (fun _ => wp_if (fun c => absurd c (by decide)) (fun _ => wp_if (fun _ => wp_gd hg ?_) (fun c => absurd rfl c)))))))
        rw [et1]
        exact wp_some rfl
      · refine wp_gd (by decide) (wp_if (fun c => absurd c (by decide)) (fun _ => wp_if (fun c => absurd c (by decide)) (fun _ => wp_if (fun c => absurd c (by decide)) (fun _ => wp_if (fun c => absurd c (by decide)) (fun _ => wp_if (fun c => absurd c (by decide)) (fun _ => wp_if (fun _ => wp_gd hg ?_) (fun c => absurd rfl c)))))))
        rw [et1, c4, c5]
        exact wp_eq (q_pcost hB hW hn hT hPC c6 c8 c9 c10) (wp_some rfl)
    by_cases k6' : x2 = 6
    · subst k6'
      have hfx := FX_fixed hn hF ⟨hab, hbn⟩ c7 hal.2
      have h19 := hB.1 19 a (by decide) (by decide) (by decide)
      obtain ⟨v, ev, hv⟩ := q_isFixed hF.1 (fF := r.1) (fT := r.2.1) (pF := w9) (pT := w10) (i := i) (by omega) (fun f => ⟨(hFi f).1, (hFi f).2.1⟩) (by rw [c4, c5]; omega) (x1 := x1) (mm := (fm : Int)) ei rfl
      rw [c4, c5] at hv
      have hua : (u6 x1.toNat).toNat = a := by rw [et1, c1]; omega
      by_cases hz : B 19 a = 0
      · have hv0 : v = 0 := by
          rcases hv with ⟨_, hv⟩ | ⟨hv, _⟩
          · exact absurd hz (hfx.mp hv)
          · exact hv
        refine fin 0 0 0 (Or.inr ⟨rfl, rfl, by decide⟩) (hclass 0 0 ?_) (href 0 0 ?_)
        · refine wp_gd (by decide) (wp_if (fun c => absurd c (by decide)) (fun _ => wp_if (fun c => absurd c (by decide)) (fun _ => wp_if (fun c => absurd c (by decide)) (fun _ => wp_if (fun c => absurd c (by decide)) (fun _ => wp_if (fun c => absurd c (by decide)) (fun _ => wp_if (fun c => absurd c (by decide)) (fun _ => wp_if (fun _ => wp_gd hg (wp_gd hbg ?_)) (fun c => absurd rfl c))))))))
          rw [hua]
          exact wp_gd h19 (wp_if (fun _ => wp_some rfl) (fun c => absurd hz c))
        · refine wp_gd (by decide) (wp_if (fun c => absurd c (by decide)) (fun _ => wp_if (fun c => absurd c (by decide)) (fun _ => wp_if (fun c => absurd c (by decide)) (fun _ => wp_if (fun c => absurd c (by decide)) (fun _ => wp_if (fun c => absurd c (by decide)) (fun _ => wp_if (fun c => absurd c (by decide)) (fun _ => wp_if (fun _ => wp_eq ev ?_) (fun c => absurd rfl c))))))))
          exact wp_gd (by omega) (wp_if (fun _ => wp_some rfl) (fun c => absurd hv0 c))
      · have hv1 : v = 1 := by
          rcases hv with ⟨hv, _⟩ | ⟨_, hv⟩
          · exact hv
          · obtain ⟨f, hf, hf2⟩ := hfx.mpr hz
            exact absurd hf2 (hv f hf)
        refine fin 0 1 1 (Or.inr ⟨rfl, rfl, by decide⟩) (hclass 0 1 ?_) (href 0 1 ?_)
        · refine wp_gd (by decide) (wp_if (fun c => absurd c (by decide)) (fun _ => wp_if (fun c => absurd c (by decide)) (fun _ => wp_if (fun c => absurd c (by decide)) (fun _ => wp_if (fun c => absurd c (by decide)) (fun _ => wp_if (fun c => absurd c (by decide)) (fun _ => wp_if (fun c => absurd c (by decide)) (fun _ => wp_if (fun _ => wp_gd hg (wp_gd hbg ?_)) (fun c => absurd rfl c))))))))
          rw [hua]
          exact wp_gd h19 (wp_if (fun c => absurd c hz) (fun _ => wp_some rfl))
        · refine wp_gd (by decide) (wp_if (fun c => absurd c (by decide)) (fun _ => wp_if (fun c => absurd c (by decide)) (fun _ => wp_if (fun c => absurd c (by decide)) (fun _ => wp_if (fun c => absurd c (by decide)) (fun _ => wp_if (fun c => absurd c (by decide)) (fun _ => wp_if (fun c => absurd c (by decide)) (fun _ => wp_if (fun _ => wp_eq ev ?_) (fun c => absurd rfl c))))))))
          exact wp_gd (by omega) (wp_if (fun c => absurd c (by omega)) (fun _ => wp_some rfl))
    refine fin 1 0 0 (Or.inl rfl) (hclass 1 0 ?_) (href 1 0 ?_)
    · exact wp_gd h2 (wp_if (fun c => absurd c k0') (fun _ => wp_if (fun c => absurd c k1') (fun _ => wp_if (fun c => absurd c k2') (fun _ => wp_if (fun c => absurd c k3') (fun _ => wp_if (fun c => absurd c k4') (fun _ => wp_if (fun c => absurd c k5') (fun _ => wp_if (fun c => absurd c k6') (fun _ => wp_some rfl))))))))
    · exact wp_gd h2 (wp_if (fun c => absurd c k0') (fun _ => wp_if (fun c => absurd c k1') (fun _ => wp_if (fun c => absurd c k2') (fun _ => wp_if (fun c => absurd c k3') (fun _ => wp_if (fun c => absurd c k4') (fun _ => wp_if (fun c => absurd c k5') (fun _ => wp_if (fun c => absurd c k6') (fun _ => wp_some rfl))))))))
  · refine ⟨_, _, 1, 0, 0, Or.inl rfl, ?_, ?_, hCU, hRW⟩
    · apply wp_out
      unfold m_X8_part
      exact wp_eq eu (wp_gd h1 (wp_if (fun _ => wp_some rfl) (fun _ => wp_gd (by omega) (wp_if (fun c => absurd c (by omega)) (fun _ => wp_some rfl)))))
    · apply wp_out
      unfold m_X9_part m_X9_part_21 m_X9_fail
      exact wp_eq ew (wp_gd h1 (wp_if (fun _ => wp_some rfl) (fun _ => wp_gd (by omega) (wp_if (fun c => absurd c (by omega)) (fun _ => wp_some rfl)))))
