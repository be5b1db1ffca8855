/-! choices, on both sides -/
abbrev T14 : Type := Int × (Nat → Int) × (Nat → Int) × Int × Int × Int × (Nat → Int) × (Nat → Int) × (Nat → Int) × Nat × (Nat → Int) × Nat × Int × Int
theorem OFS_all {VL : Nat → Int → Prop} {k : Nat} {l : oL} (h : OFS VL k l) : ∀ j, j < l.1 → ∃ (i : Nat) (v : Int), i < k ∧ l.2.1 j = (i : Int) ∧ VL i v := by
  obtain ⟨sq, h0, h1, h2, h3⟩ := h
  have key : ∀ m, m ≤ k → ∀ j, j < (sq m).1 → ∃ (i : Nat) (v : Int), i < m ∧ (sq m).2.1 j = (i : Int) ∧ VL i v := by
    intro m
    induction m with
    | zero =>
      intro _ j hj
      rw [h0] at hj
      exact absurd hj (by omega)
    | succ m ih =>
      intro hm j hj
      have ih := ih (by omega)
      rcases h1 m (by omega) with ⟨v, hv, p, p1, p2, p3, p4⟩ | ⟨_, hq⟩
      · rcases p4 with ⟨q1, q2, q3⟩ | ⟨q1, q2, q3⟩
        · rw [q2] at hj
          obtain ⟨i, v', a1, a2, a3⟩ := ih j hj
          exact ⟨i, v', by omega, by rw [(q3 j hj).1]; exact a2, a3⟩
        · obtain ⟨b1, b2, b3⟩ := q3 j hj
          by_cases c1 : j < p
          · obtain ⟨i, v', a1, a2, a3⟩ := ih j (by omega)
            exact ⟨i, v', by omega, by rw [(b1 c1).1]; exact a2, a3⟩
          · by_cases c2 : j = p
            · exact ⟨m, v, by omega, (b2 c2).1, hv⟩
            · obtain ⟨i, v', a1, a2, a3⟩ := ih (j - 1) (by omega)
              exact ⟨i, v', by omega, by rw [(b3 (by omega)).1]; exact a2, a3⟩
      · rw [hq.1] at hj
        obtain ⟨i, v', a1, a2, a3⟩ := ih j hj
        refine ⟨i, v', by omega, ?_, a3⟩
        rw [(hq.2 j (by rw [hq.1]; exact hj)).1]
        exact a2
  intro j hj
  have hj' : j < (sq k).1 := by
    rw [h2.1]
    exact hj
  obtain ⟨i, v, a1, a2, a3⟩ := key k (Nat.le_refl k) j hj'
  refine ⟨i, v, a1, ?_, a3⟩
  rw [← (h2.2 j hj').1]
  exact a2
set_option maxHeartbeats 1000000 in
theorem z_clist {k : Nat} {B : Nat → Nat → Int} {sc t : Nat → Int} {n fm : Nat} {r : r4} (hG : GD k B sc) (hS : SHT B t n fm r.1 r.2.1 r.2.2.1 r.2.2.2) {tails leads : Nat → Int} {lk lp olen : Int} {oE oC fv heads rests : Nat → Int} {rk rtot rlen : Int} {bg en et co vals lr : Nat → Int} {vc : Int} {now next : Nat → Int} {low high : Int} {seeds lows : Nat → Int} (nA xA : Nat) (h : CC B t n tails leads lk lp olen oE oC fv heads rests rk rtot rlen bg en et co vals lr vc now next low high seeds lows) (hrk : rk = 1) (hD : RDC B t n fv rests rtot rlen bg en et co vals) {x1 : Int} (h1 : inI x1) :
    wp (m_X2_list x1 (B 0) (B 1) (B 2) (B 3) (B 18 0) (B 4) (B 6) (B 7) (B 8) (B 18 1) (B 9) (B 11) (B 12) (B 13) sc tails leads lk lp olen oE oC fv rests rlen bg en n t (B 17) (B 19) vals now nA next xA low high) (fun v : T14 => CC B t n v.2.1 v.2.2.1 v.2.2.2.1 v.2.2.2.2.1 v.2.2.2.2.2.1 v.2.2.2.2.2.2.1 v.2.2.2.2.2.2.2.1 fv heads rests rk rtot rlen bg en et co vals lr vc v.2.2.2.2.2.2.2.2.1 v.2.2.2.2.2.2.2.2.2.2.1 v.2.2.2.2.2.2.2.2.2.2.2.2.1 v.2.2.2.2.2.2.2.2.2.2.2.2.2 seeds lows ∧ ((v.1 = 0 ∧ ¬ (0 ≤ x1 ∧ x1 < rlen)) ∨ (v.1 = 1 ∧ (0 ≤ x1 ∧ x1 < rlen) ∧ LDC B t n v.2.1 v.2.2.1 ∧ ∃ a b : Nat, bg x1.toNat = a ∧ en x1.toNat = b ∧ a < b ∧ b ≤ n ∧ LT B n a b ∧ OLC B t a b v.2.2.1 rests v.2.2.2.2.2.1 v.2.2.2.2.2.2.1 v.2.2.2.2.2.2.2.1))) := by
  obtain ⟨hB, hW, hGS, hsc, -⟩ := hG
  obtain ⟨hn, ht, h36, hF, hFi⟩ := hS
  obtain ⟨q1, q2, q3, q4, q5, q6, q7, q8, q9, q10, q11, q12⟩ := id h
  have q12 := q12.resolve_left (fun z => absurd z.1 (by omega))
  obtain ⟨f1, f2, f3, f4⟩ := q12
  refine wp_mono (q_list hB hW hGS (inT_I ht) hn (FX_C hF) nA xA hsc hD q1 q2 q3 q7 rfl h1 f3 q11 f4) ?_
  rintro v ⟨hv, g1, g2, g3, g4⟩
  rcases hv with ⟨a1, a2, a3⟩ | ⟨a1, a2, a3, a4, a5, a, b, a6, a7, a8, a9, a10, a11⟩
  · obtain ⟨v0, v'⟩ := v
    have a3 : v' = _ := a3
    subst a3
    exact ⟨h, Or.inl ⟨a1, a2⟩⟩
  · refine ⟨⟨g1, g2, g3, q4, q5, q6, g4, q8, q9, q10, by rw [a4]; exact h1, Or.inr ⟨f1, f2, Or.inr ⟨a3, a5⟩, Or.inr ⟨a3, x1.toNat, a, b, by rw [a4]; omega, a6, a7, a11⟩⟩⟩, Or.inr ⟨a1, a2, a5, a, b, a6, a7, a8, a9, a10, a11⟩⟩
/-- both lists of choices -/
theorem z_lists {k : Nat} {B : Nat → Nat → Int} {sc t : Nat → Int} {n fm : Nat} {r : r4} (hG : GD k B sc) (hS : SHT B t n fm r.1 r.2.1 r.2.2.1 r.2.2.2) {tails leads rests rest ahead E C pF pT tb cW cE cC : Nat → Int} {olen ch : Int} (hL : LDC B t n tails leads) (hR : BRc B t n 0 rests) {a b : Nat} (hab : a < b) (hbn : b ≤ n) (hlt : LT B n a b) (hO : OLC B t a b leads rests olen E C) (hT : TBL B t n (540 * n) tb) (hBR : BR B t n 0 rest) (hAH : AHD B t n ahead) (hcC : ∀ i, inI (cC i)) {x1 : Int} (hx : 0 ≤ x1 ∧ x1 < 36) (ea : pF x1.toNat = a) (eb : pT x1.toNat = b) :
    wp (m_X9_choose0 x1 (B 6) (B 7) (B 8) (B 11) (B 12) (B 18 0) (B 18 1) (B 13 1) (B 13 2) (B 14) (B 15) n (B 17) tb rest ahead pF pT cW cE cC ch) (fun s : st4 => (∀ i, inI (s.2.2.1 i)) ∧ ∃ len : Nat, olen = len ∧ s.2.2.2 = len ∧ len ≤ 12 ∧ ∀ i, i < len → ∃ e : Nat, E i = (e : Int) ∧ (e : Int) = 9 * s.1 i + s.2.1 i + 1 ∧ e ≤ 540 ∧ C i = s.2.2.1 i ∧ (0 ≤ s.1 i ∧ s.1 i ≤ 60) ∧ (-1 ≤ s.2.1 i ∧ s.2.1 i < 8) ∧ (s.1 i = 60 → s.2.1 i = -1) ∧ EV B e) := by
  obtain ⟨hB, hW, hGS, hsc, -⟩ := hG
  obtain ⟨hn, ht, h36, hF, hFi⟩ := hS
  obtain ⟨La, hLa⟩ := La_ex hB hGS hn (show a ≤ n by omega) hAH
  refine wp_mono (q_choose0 hB hW hGS hn hab hbn hlt hT hBR hAH hcC hLa rfl rfl rfl hx ea eb) ?_
  intro s hs
  obtain ⟨len, l1, l2, l3, l4⟩ := list_agree hW hab hbn hL hAH hR hBR hLa hO hs
  obtain ⟨⟨len', m1, m2, m3, m4⟩, m5⟩ := hs
  have hll : len' = len := by omega
  subst hll
  refine ⟨m5, len', l1, l2, l3, fun i hi => ?_⟩
  obtain ⟨c1, c2, c3, c4, c5⟩ := l4 i hi
  obtain ⟨e, v, d1, d2, d3⟩ := OFS_all m3 i hi
  have d2 : 9 * s.1 i + s.2.1 i + 1 = (e : Int) := d2
  have c1 : E i = 9 * s.1 i + s.2.1 i + 1 := c1
  exact ⟨e, by omega, by omega, by omega, c2, c3, c4, c5, d3.1⟩
set_option maxHeartbeats 2000000 in
theorem z_choices {k : Nat} {B : Nat → Nat → Int} {sc t : Nat → Int} {n fm : Nat} {r : r4} (hG : GD k B sc) (hS : SHT B t n fm r.1 r.2.1 r.2.2.1 r.2.2.2) {tails leads : Nat → Int} {lk lp olen : Int} {oE oC fv heads rests : Nat → Int} {rk rtot rlen : Int} {bg en et co vals lr : Nat → Int} {vc : Int} {now next : Nat → Int} {low high : Int} {seeds lows : Nat → Int} (nA xA : Nat) (hC : CC B t n tails leads lk lp olen oE oC fv heads rests rk rtot rlen bg en et co vals lr vc now next low high seeds lows) {ir im : Int} {tb re ne rest ahead : Nat → Int} {parts total : Int} {pF pT pW pE : Nat → Int} {cC : Nat → Int} (code fo f0 k0 : Int) (cW cE : Nat → Int) (ch : Int) (hR : RC B t n ir im tb re ne rest ahead parts total pF pT pW pE cC) {x1 : Int} (h1 : inI x1) :
    ∃ (u : T21) (v : T14) (w : T16) (s : st4) (cd rv rv' : Int), ANS cd rv rv' ∧ m_X8_choices x1 (B 0) (B 1) (B 2) (B 3) (B 18 0) (B 4) (B 6) (B 7) (B 8) (B 18 1) (B 9) (B 11) (B 12) (B 13) sc tails leads lk lp olen oE oC fv heads rests rk rtot rlen bg en et co n t (B 17) (B 19) vals lr vc now nA next xA low high seeds lows = some (cd, rv, v.2.1, v.2.2.1, v.2.2.2.1, v.2.2.2.2.1, v.2.2.2.2.2.1, v.2.2.2.2.2.2.1, v.2.2.2.2.2.2.2.1, u.1, u.2.1, u.2.2.1, u.2.2.2.1, u.2.2.2.2.1, u.2.2.2.2.2.1, u.2.2.2.2.2.2.1, u.2.2.2.2.2.2.2.1, u.2.2.2.2.2.2.2.2.1, u.2.2.2.2.2.2.2.2.2.1, u.2.2.2.2.2.2.2.2.2.2.1, u.2.2.2.2.2.2.2.2.2.2.2.1, u.2.2.2.2.2.2.2.2.2.2.2.2.1, v.2.2.2.2.2.2.2.2.1, v.2.2.2.2.2.2.2.2.2.1, v.2.2.2.2.2.2.2.2.2.2.1, v.2.2.2.2.2.2.2.2.2.2.2.1, v.2.2.2.2.2.2.2.2.2.2.2.2.1, v.2.2.2.2.2.2.2.2.2.2.2.2.2, u.2.2.2.2.2.2.2.2.2.2.2.2.2.2.2.2.2.2.2.1, u.2.2.2.2.2.2.2.2.2.2.2.2.2.2.2.2.2.2.2.2) ∧ m_X9_choices x1 code (B 0) (B 3) (B 1) (B 4) (B 9) (B 6) (B 7) (B 8) (B 11) (B 12) (B 18 0) (B 18 1) (B 13 0) (B 13 1) (B 13 2) (B 14) (B 15) n fm t (B 17) r.1 r.2.1 r.2.2.1 r.2.2.2 ir im tb re ne rest ahead parts total pF pT pW pE fo f0 k0 cW cE cC ch = some (rv', cd, w.1, w.2.1, w.2.2.1, w.2.2.2.1, w.2.2.2.2.1, w.2.2.2.2.2.1, w.2.2.2.2.2.2.1, w.2.2.2.2.2.2.2.1, w.2.2.2.2.2.2.2.2.1, w.2.2.2.2.2.2.2.2.2.1, w.2.2.2.2.2.2.2.2.2.2.1, w.2.2.2.2.2.2.2.2.2.2.2.1, w.2.2.2.2.2.2.2.2.2.2.2.2.1, w.2.2.2.2.2.2.2.2.2.2.2.2.2.1, w.2.2.2.2.2.2.2.2.2.2.2.2.2.2.1, w.2.2.2.2.2.2.2.2.2.2.2.2.2.2.2, s.1, s.2.1, s.2.2.1, s.2.2.2) ∧ CC B t n v.2.1 v.2.2.1 v.2.2.2.1 v.2.2.2.2.1 v.2.2.2.2.2.1 v.2.2.2.2.2.2.1 v.2.2.2.2.2.2.2.1 u.1 u.2.1 u.2.2.1 u.2.2.2.1 u.2.2.2.2.1 u.2.2.2.2.2.1 u.2.2.2.2.2.2.1 u.2.2.2.2.2.2.2.1 u.2.2.2.2.2.2.2.2.1 u.2.2.2.2.2.2.2.2.2.1 u.2.2.2.2.2.2.2.2.2.2.1 u.2.2.2.2.2.2.2.2.2.2.2.1 u.2.2.2.2.2.2.2.2.2.2.2.2.1 v.2.2.2.2.2.2.2.2.1 v.2.2.2.2.2.2.2.2.2.2.1 v.2.2.2.2.2.2.2.2.2.2.2.2.1 v.2.2.2.2.2.2.2.2.2.2.2.2.2 u.2.2.2.2.2.2.2.2.2.2.2.2.2.2.2.2.2.2.2.1 u.2.2.2.2.2.2.2.2.2.2.2.2.2.2.2.2.2.2.2.2 ∧ RC B t n w.1 w.2.1 w.2.2.1 w.2.2.2.1 w.2.2.2.2.1 w.2.2.2.2.2.1 w.2.2.2.2.2.2.1 w.2.2.2.2.2.2.2.1 w.2.2.2.2.2.2.2.2.1 w.2.2.2.2.2.2.2.2.2.1 w.2.2.2.2.2.2.2.2.2.2.1 w.2.2.2.2.2.2.2.2.2.2.2.1 w.2.2.2.2.2.2.2.2.2.2.2.2.1 s.2.2.1 := by
  obtain ⟨u, eu, hCU, hu3, hD⟩ := z_renew hG hS nA xA hC
  obtain ⟨w, ew, hRW, hw01, hE, hT⟩ := z_rread hG hS fo f0 k0 hR
  obtain ⟨P, g1, g2, g3, g4, g5, g6, g7, g8⟩ := rd_part hG.2.1 hD hE
  obtain ⟨u0, u1, u2, u3, u4, u5, u6, u7, u8, u9, u10, u11, u12, u13, u14, u15, u16, u17, u18, u19, u20⟩ := u
  obtain ⟨w0, w1, w2, w3, w4, w5, w6, w7, w8, w9, w10, w11, w12, w13, w14, w15⟩ := w
  have g1 : u5 = (P : Int) := g1
  have g2 : w7 = (P : Int) := g2
  obtain ⟨v, ev, hCV, hv⟩ := z_clist hG hS u14 u16 hCU hu3 hD h1
  obtain ⟨v0, v1, v2, v3, v4, v5, v6, v7, v8, v9, v10, v11, v12, v13⟩ := v
  have hcC := hR.2.2.2.2.2.1
  rcases hv with ⟨a1, a2⟩ | ⟨a1, a2, hL, a, b, a3, a4, a5, a6, a7, hO⟩
  · have a1 : v0 = 0 := a1
    have a2 : ¬ (0 ≤ x1 ∧ x1 < u5) := a2
    refine ⟨(u0, u1, u2, u3, u4, u5, u6, u7, u8, u9, u10, u11, u12, u13, u14, u15, u16, u17, u18, u19, u20), (v0, v1, v2, v3, v4, v5, v6, v7, v8, v9, v10, v11, v12, v13), (w0, w1, w2, w3, w4, w5, w6, w7, w8, w9, w10, w11, w12, w13, w14, w15), (cW, cE, cC, ch), 1, 0, 0, Or.inl rfl, ?_, ?_, hCV, hRW⟩
    · apply wp_out
      unfold m_X8_choices
      exact wp_eq eu (wp_eq ev (wp_gd (by omega) (wp_if (fun _ => wp_some rfl) (fun c => absurd a1 c))))
    · apply wp_out
      unfold m_X9_choices m_X9_choices_21 m_X9_fail
      exact wp_eq ew (wp_gd h1 (wp_if (fun _ => wp_some rfl) (fun _ => wp_gd (by omega) (wp_if (fun c => absurd c (by omega)) (fun _ => wp_some rfl)))))
  · have a1 : v0 = 1 := a1
    have a2 : 0 ≤ x1 ∧ x1 < u5 := a2
    obtain ⟨a', b', e', c1, c2, c3, c4, c5, c6, c7, c8, c9, c10, hPC⟩ := g8 x1.toNat (by omega)
    have hn0 : 0 < n := by omega
    obtain ⟨Pd, d1, d2, d3, d4⟩ := id hD
    have d4 := d4 hn0
    obtain ⟨Pr, r1, r2, r3, r4', r5, r6, r7⟩ := id hE
    have a3 : u6 x1.toNat = (a : Int) := a3
    have a4 : u7 x1.toNat = (b : Int) := a4
    have c1 : u6 x1.toNat = (a' : Int) := c1
    have c2 : u7 x1.toNat = (b' : Int) := c2
    have ea : w9 x1.toNat = (a : Int) := by rw [← a3, c1]; exact c4
    have eb : w10 x1.toNat = (b : Int) := by rw [← a4, c2]; exact c5
    obtain ⟨s, es, hsI, len, l1, l2, l3, l4⟩ := z_lists hG hS (cW := cW) (cE := cE) (cC := cC) (ch := ch) hL d4.2.2.1 a5 a6 a7 hO hT r3 r7 hcC (by omega) ea eb
    obtain ⟨s0, s1, s2, s3⟩ := s
    have l1 : v5 = (len : Int) := l1
    have l2 : s3 = (len : Int) := l2
    refine ⟨(u0, u1, u2, u3, u4, u5, u6, u7, u8, u9, u10, u11, u12, u13, u14, u15, u16, u17, u18, u19, u20), (v0, v1, v2, v3, v4, v5, v6, v7, v8, v9, v10, v11, v12, v13), (w0, w1, w2, w3, w4, w5, w6, w7, w8, w9, w10, w11, w12, w13, w14, w15), (s0, s1, s2, s3), 0, v5, s3, Or.inr ⟨rfl, by omega, by omega⟩, ?_, ?_, hCV, ⟨hRW.1, hRW.2.1, hRW.2.2.1, hRW.2.2.2.1, hRW.2.2.2.2.1, hsI, hRW.2.2.2.2.2.2⟩⟩
    · apply wp_out
      unfold m_X8_choices
      exact wp_eq eu (wp_eq ev (wp_gd (by omega) (wp_if (fun c => absurd c (by omega)) (fun _ => wp_some rfl))))
    · apply wp_out
      unfold m_X9_choices
      exact wp_eq ew (wp_gd h1 (wp_if (fun c => absurd c (by omega)) (fun _ => wp_gd (by omega) (wp_if (fun _ => wp_eq es (wp_some rfl)) (fun c => absurd (by omega) c)))))
