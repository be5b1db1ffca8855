/-! a choice is told, or chosen, on both sides -/
set_option maxHeartbeats 1000000 in
theorem z_both {k : Nat} {B : Nat → Nat → Int} {sc t : Nat → Int} {n fm : Nat} {r : r4} (hG : GD k B sc) (hS : SHT B t n fm r.1 r.2.1 r.2.2.1 r.2.2.2) {tails leads : Nat → Int} {lk lp olen : Int} {oE oC fv heads rests : Nat → Int} {rk rtot rlen : Int} {bg en et co vals lr : Nat → Int} {vc : Int} {now next : Nat → Int} {low high : Int} {seeds lows : Nat → Int} (nA xA : Nat) (hC : CC B t n tails leads lk lp olen oE oC fv heads rests rk rtot rlen bg en et co vals lr vc now next low high seeds lows) {ir im : Int} {tb re ne rest ahead : Nat → Int} {parts total : Int} {pF pT pW pE : Nat → Int} {cC : Nat → Int} (fo f0 k0 : Int) (cW cE : Nat → Int) (ch : Int) (hR : RC B t n ir im tb re ne rest ahead parts total pF pT pW pE cC) {x1 : Int} (h1 : inI x1) :
    ∃ (u : T21) (v : T14) (w : T16), m_X3_renew (B 0) (B 1) (B 2) (B 3) (B 18 0) (B 4) (B 6) (B 7) (B 8) (B 18 1) (B 9) (B 11) (B 12) (B 13) sc fv heads rests rk rtot rlen bg en et co n t (B 17) (B 19) vals lr vc now nA next xA low high seeds lows = some u ∧ m_X9_read (B 0) (B 3) (B 1) (B 4) (B 9) (B 6) (B 7) (B 8) (B 11) (B 12) (B 18 0) (B 18 1) (B 13 0) (B 13 1) (B 13 2) (B 14) (B 15) n fm t (B 17) r.1 r.2.1 r.2.2.1 r.2.2.2 ir im tb re ne rest ahead parts total pF pT pW pE fo f0 k0 = some w ∧ m_X2_list x1 (B 0) (B 1) (B 2) (B 3) (B 18 0) (B 4) (B 6) (B 7) (B 8) (B 18 1) (B 9) (B 11) (B 12) (B 13) sc tails leads lk lp olen oE oC u.1 u.2.2.1 u.2.2.2.2.2.1 u.2.2.2.2.2.2.1 u.2.2.2.2.2.2.2.1 n t (B 17) (B 19) u.2.2.2.2.2.2.2.2.2.2.1 u.2.2.2.2.2.2.2.2.2.2.2.2.2.1 u.2.2.2.2.2.2.2.2.2.2.2.2.2.2.1 u.2.2.2.2.2.2.2.2.2.2.2.2.2.2.2.1 u.2.2.2.2.2.2.2.2.2.2.2.2.2.2.2.2.1 u.2.2.2.2.2.2.2.2.2.2.2.2.2.2.2.2.2.1 u.2.2.2.2.2.2.2.2.2.2.2.2.2.2.2.2.2.2.1 = some v ∧ CC B t n v.2.1 v.2.2.1 v.2.2.2.1 v.2.2.2.2.1 v.2.2.2.2.2.1 v.2.2.2.2.2.2.1 v.2.2.2.2.2.2.2.1 u.1 u.2.1 u.2.2.1 u.2.2.2.1 u.2.2.2.2.1 u.2.2.2.2.2.1 u.2.2.2.2.2.2.1 u.2.2.2.2.2.2.2.1 u.2.2.2.2.2.2.2.2.1 u.2.2.2.2.2.2.2.2.2.1 u.2.2.2.2.2.2.2.2.2.2.1 u.2.2.2.2.2.2.2.2.2.2.2.1 u.2.2.2.2.2.2.2.2.2.2.2.2.1 v.2.2.2.2.2.2.2.2.1 v.2.2.2.2.2.2.2.2.2.2.1 v.2.2.2.2.2.2.2.2.2.2.2.2.1 v.2.2.2.2.2.2.2.2.2.2.2.2.2 u.2.2.2.2.2.2.2.2.2.2.2.2.2.2.2.2.2.2.2.1 u.2.2.2.2.2.2.2.2.2.2.2.2.2.2.2.2.2.2.2.2 ∧ RC B t n w.1 w.2.1 w.2.2.1 w.2.2.2.1 w.2.2.2.2.1 w.2.2.2.2.2.1 w.2.2.2.2.2.2.1 w.2.2.2.2.2.2.2.1 w.2.2.2.2.2.2.2.2.1 w.2.2.2.2.2.2.2.2.2.1 w.2.2.2.2.2.2.2.2.2.2.1 w.2.2.2.2.2.2.2.2.2.2.2.1 w.2.2.2.2.2.2.2.2.2.2.2.2.1 cC ∧ ∃ P : Nat, u.2.2.2.2.2.1 = P ∧ w.2.2.2.2.2.2.2.1 = P ∧ P ≤ 36 ∧ ((v.1 = 0 ∧ ¬ (0 ≤ x1 ∧ x1 < (P : Int))) ∨ (v.1 = 1 ∧ (0 ≤ x1 ∧ x1 < (P : Int)) ∧ ∃ a b : Nat, u.2.2.2.2.2.2.1 x1.toNat = a ∧ u.2.2.2.2.2.2.2.1 x1.toNat = b ∧ w.2.2.2.2.2.2.2.2.2.1 x1.toNat = a ∧ w.2.2.2.2.2.2.2.2.2.2.1 x1.toNat = b ∧ a < b ∧ b ≤ n ∧ ∃ s : st4, m_X9_choose0 x1 (B 6) (B 7) (B 8) (B 11) (B 12) (B 18 0) (B 18 1) (B 13 1) (B 13 2) (B 14) (B 15) n (B 17) w.2.2.1 w.2.2.2.2.2.1 w.2.2.2.2.2.2.1 w.2.2.2.2.2.2.2.2.2.1 w.2.2.2.2.2.2.2.2.2.2.1 cW cE cC ch = some s ∧ (∀ i, inI (s.2.2.1 i)) ∧ ∃ len : Nat, v.2.2.2.2.2.1 = len ∧ s.2.2.2 = len ∧ len ≤ 12 ∧ ∀ i, i < len → ∃ e : Nat, v.2.2.2.2.2.2.1 i = (e : Int) ∧ (e : Int) = 9 * s.1 i + s.2.1 i + 1 ∧ e ≤ 540 ∧ v.2.2.2.2.2.2.2.1 i = s.2.2.1 i ∧ (0 ≤ s.1 i ∧ s.1 i ≤ 60) ∧ (-1 ≤ s.2.1 i ∧ s.2.1 i < 8) ∧ (s.1 i = 60 → s.2.1 i = -1) ∧ EV B e)) := by
  obtain ⟨u, eu, hCU, hu3, hD⟩ := z_renew hG hS nA xA hC
  obtain ⟨w, ew, hRW, hw01, hE, hT⟩ := z_rread hG hS fo f0 k0 hR
  obtain ⟨P, g1, g2, g3, g4, g5, g6, g7, g8⟩ := rd_part hG.2.1 hD hE
  obtain ⟨v, ev, hCV, hv⟩ := z_clist hG hS u.2.2.2.2.2.2.2.2.2.2.2.2.2.2.1 u.2.2.2.2.2.2.2.2.2.2.2.2.2.2.2.2.1 hCU hu3 hD h1
  refine ⟨u, v, w, eu, ew, ev, hCV, hRW, P, g1, g2, g3, ?_⟩
  rcases hv with ⟨a1, a2⟩ | ⟨a1, a2, hL, a, b, a3, a4, a5, a6, a7, hO⟩
  · exact Or.inl ⟨a1, by rw [← g1]; exact a2⟩
  · rw [g1] at a2
    obtain ⟨a', b', e', c1, c2, c3, c4, c5, -⟩ := g8 x1.toNat (by omega)
    have hn0 : 0 < n := by omega
    obtain ⟨Pd, d1, d2, d3, d4⟩ := id hD
    have d4 := d4 hn0
    obtain ⟨Pr, r1, r2, r3, r4', r5, r6, r7⟩ := id hE
    have ea : w.2.2.2.2.2.2.2.2.2.1 x1.toNat = (a : Int) := by rw [← a3, c1]; exact c4
    have eb : w.2.2.2.2.2.2.2.2.2.2.1 x1.toNat = (b : Int) := by rw [← a4, c2]; exact c5
    obtain ⟨s, es, hs⟩ := z_lists hG hS (cW := cW) (cE := cE) (cC := cC) (ch := ch) hL d4.2.2.1 a5 a6 a7 hO hT r3 r7 hR.2.2.2.2.2.1 (by omega) ea eb
    exact Or.inr ⟨a1, a2, a, b, a3, a4, ea, eb, a5, a6, s, es, hs⟩
set_option maxHeartbeats 2000000 in
theorem z_choice {k : Nat} {B : Nat → Nat → Int} {sc t : Nat → Int} {n fm : Nat} {r : r4} (hG : GD k B sc) (hS : SHT B t n fm r.1 r.2.1 r.2.2.1 r.2.2.2) {tails leads : Nat → Int} {lk lp olen : Int} {oE oC fv heads rests : Nat → Int} {rk rtot rlen : Int} {bg en et co vals lr : Nat → Int} {vc : Int} {now next : Nat → Int} {low high : Int} {seeds lows : Nat → Int} (nA xA : Nat) (hC : CC B t n tails leads lk lp olen oE oC fv heads rests rk rtot rlen bg en et co vals lr vc now next low high seeds lows) {ir im : Int} {tb re ne rest ahead : Nat → Int} {parts total : Int} {pF pT pW pE : Nat → Int} {cC : Nat → Int} (code fo f0 k0 : Int) (cW cE : Nat → Int) (ch : Int) (hR : RC B t n ir im tb re ne rest ahead parts total pF pT pW pE cC) {x1 x2 x3 : Int} (h1 : inI x1) (h2 : inI x2) (h3 : inI x3) :
    ∃ (u : T21) (v : T14) (w : T16) (s : st4) (cd rv rv' : Int), ANS cd rv rv' ∧ m_X8_choice x1 x2 x3 (B 0) (B 1) (B 2) (B 3) (B 18 0) (B 4) (B 6) (B 7) (B 8) (B 18 1) (B 9) (B 11) (B 12) (B 13) sc tails leads lk lp olen oE oC fv heads rests rk rtot rlen bg en et co n t (B 17) (B 19) vals lr vc now nA next xA low high seeds lows = some (cd, rv, v.2.1, v.2.2.1, v.2.2.2.1, v.2.2.2.2.1, v.2.2.2.2.2.1, v.2.2.2.2.2.2.1, v.2.2.2.2.2.2.2.1, u.1, u.2.1, u.2.2.1, u.2.2.2.1, u.2.2.2.2.1, u.2.2.2.2.2.1, u.2.2.2.2.2.2.1, u.2.2.2.2.2.2.2.1, u.2.2.2.2.2.2.2.2.1, u.2.2.2.2.2.2.2.2.2.1, u.2.2.2.2.2.2.2.2.2.2.1, u.2.2.2.2.2.2.2.2.2.2.2.1, u.2.2.2.2.2.2.2.2.2.2.2.2.1, v.2.2.2.2.2.2.2.2.1, v.2.2.2.2.2.2.2.2.2.1, v.2.2.2.2.2.2.2.2.2.2.1, v.2.2.2.2.2.2.2.2.2.2.2.1, v.2.2.2.2.2.2.2.2.2.2.2.2.1, v.2.2.2.2.2.2.2.2.2.2.2.2.2, u.2.2.2.2.2.2.2.2.2.2.2.2.2.2.2.2.2.2.2.1, u.2.2.2.2.2.2.2.2.2.2.2.2.2.2.2.2.2.2.2.2) ∧ m_X9_choice x1 x2 x3 code (B 0) (B 3) (B 1) (B 4) (B 9) (B 6) (B 7) (B 8) (B 11) (B 12) (B 18 0) (B 18 1) (B 13 0) (B 13 1) (B 13 2) (B 14) (B 15) n fm t (B 17) r.1 r.2.1 r.2.2.1 r.2.2.2 ir im tb re ne rest ahead parts total pF pT pW pE fo f0 k0 cW cE cC ch = some (rv', cd, w.1, w.2.1, w.2.2.1, w.2.2.2.1, w.2.2.2.2.1, w.2.2.2.2.2.1, w.2.2.2.2.2.2.1, w.2.2.2.2.2.2.2.1, w.2.2.2.2.2.2.2.2.1, w.2.2.2.2.2.2.2.2.2.1, w.2.2.2.2.2.2.2.2.2.2.1, w.2.2.2.2.2.2.2.2.2.2.2.1, w.2.2.2.2.2.2.2.2.2.2.2.2.1, w.2.2.2.2.2.2.2.2.2.2.2.2.2.1, w.2.2.2.2.2.2.2.2.2.2.2.2.2.2.1, w.2.2.2.2.2.2.2.2.2.2.2.2.2.2.2, s.1, s.2.1, s.2.2.1, s.2.2.2) ∧ CC B t n v.2.1 v.2.2.1 v.2.2.2.1 v.2.2.2.2.1 v.2.2.2.2.2.1 v.2.2.2.2.2.2.1 v.2.2.2.2.2.2.2.1 u.1 u.2.1 u.2.2.1 u.2.2.2.1 u.2.2.2.2.1 u.2.2.2.2.2.1 u.2.2.2.2.2.2.1 u.2.2.2.2.2.2.2.1 u.2.2.2.2.2.2.2.2.1 u.2.2.2.2.2.2.2.2.2.1 u.2.2.2.2.2.2.2.2.2.2.1 u.2.2.2.2.2.2.2.2.2.2.2.1 u.2.2.2.2.2.2.2.2.2.2.2.2.1 v.2.2.2.2.2.2.2.2.1 v.2.2.2.2.2.2.2.2.2.2.1 v.2.2.2.2.2.2.2.2.2.2.2.2.1 v.2.2.2.2.2.2.2.2.2.2.2.2.2 u.2.2.2.2.2.2.2.2.2.2.2.2.2.2.2.2.2.2.2.1 u.2.2.2.2.2.2.2.2.2.2.2.2.2.2.2.2.2.2.2.2 ∧ RC B t n w.1 w.2.1 w.2.2.1 w.2.2.2.1 w.2.2.2.2.1 w.2.2.2.2.2.1 w.2.2.2.2.2.2.1 w.2.2.2.2.2.2.2.1 w.2.2.2.2.2.2.2.2.1 w.2.2.2.2.2.2.2.2.2.1 w.2.2.2.2.2.2.2.2.2.2.1 w.2.2.2.2.2.2.2.2.2.2.2.1 w.2.2.2.2.2.2.2.2.2.2.2.2.1 s.2.2.1 := by
  obtain ⟨u, v, w, eu, ew, ev, hCV, hRW, P, g1, g2, g3, hv⟩ := z_both hG hS nA xA hC fo f0 k0 cW cE ch hR h1
  obtain ⟨u0, u1, u2, u3, u4, u5, u6, u7, u8, u9, u10, u11, u12, u13, u14, u15, u16, u17, u18, u19, u20⟩ := u
  obtain ⟨w0, w1, w2, w3, w4, w5, w6, w7, w8, w9, w10, w11, w12, w13, w14, w15⟩ := w
  obtain ⟨v0, v1, v2, v3, v4, v5, v6, v7, v8, v9, v10, v11, v12, v13⟩ := v
  have g1 : u5 = (P : Int) := g1
  have g2 : w7 = (P : Int) := g2
  rcases hv with ⟨a1, a2⟩ | ⟨a1, a2, a, b, a3, a4, a5, a6, a7, a8, s, es, hsI, len, l1, l2, l3, l4⟩
  · have a1 : v0 = 0 := a1
    refine ⟨(u0, u1, u2, u3, u4, u5, u6, u7, u8, u9, u10, u11, u12, u13, u14, u15, u16, u17, u18, u19, u20), (v0, v1, v2, v3, v4, v5, v6, v7, v8, v9, v10, v11, v12, v13), (w0, w1, w2, w3, w4, w5, w6, w7, w8, w9, w10, w11, w12, w13, w14, w15), (cW, cE, cC, ch), 1, 0, 0, Or.inl rfl, ?_, ?_, hCV, hRW⟩
    · apply wp_out
      unfold m_X8_choice
      exact wp_eq eu (wp_eq ev (wp_gd (by omega) (wp_if (fun _ => wp_some rfl) (fun c => absurd a1 c))))
    · apply wp_out
      unfold m_X9_choice m_X9_choice_30 m_X9_fail
      exact wp_eq ew (wp_gd h1 (wp_if (fun _ => wp_some rfl) (fun _ => wp_gd (by omega) (wp_if (fun _ => wp_some rfl) (fun c => absurd a2 (by omega))))))
  · have a1 : v0 = 1 := a1
    obtain ⟨s0, s1, s2, s3⟩ := s
    have l1 : v5 = (len : Int) := l1
    have l2 : s3 = (len : Int) := l2
    have hRS : RC B t n w0 w1 w2 w3 w4 w5 w6 w7 w8 w9 w10 w11 w12 s2 := ⟨hRW.1, hRW.2.1, hRW.2.2.1, hRW.2.2.2.1, hRW.2.2.2.2.1, hsI, hRW.2.2.2.2.2.2⟩
    by_cases hx3 : 0 ≤ x3 ∧ x3 ≤ 2
    · by_cases hx2 : 0 ≤ x2 ∧ x2 < (len : Int)
      · obtain ⟨e, m1, m2, m3, m4, m5, m6, m7, m8⟩ := l4 x2.toNat (by omega)
        have m1 : v6 x2.toNat = (e : Int) := m1
        have m2 : (e : Int) = 9 * s0 x2.toNat + s1 x2.toNat + 1 := m2
        have m4 : v7 x2.toNat = s2 x2.toNat := m4
        have m5 : 0 ≤ s0 x2.toNat ∧ s0 x2.toNat ≤ 60 := m5
        have m6 : -1 ≤ s1 x2.toNat ∧ s1 x2.toNat < 8 := m6
        have m7 : s0 x2.toNat = 60 → s1 x2.toNat = -1 := m7
        have hc2 : (0 : Int) ≤ x2 ∧ x2 < 12 := by omega
        by_cases k0' : x3 = 0
        · by_cases h540 : e = 540
          · refine ⟨(u0, u1, u2, u3, u4, u5, u6, u7, u8, u9, u10, u11, u12, u13, u14, u15, u16, u17, u18, u19, u20), (v0, v1, v2, v3, v4, v5, v6, v7, v8, v9, v10, v11, v12, v13), (w0, w1, w2, w3, w4, w5, w6, w7, w8, w9, w10, w11, w12, w13, w14, w15), (s0, s1, s2, s3), 0, -1, -1, Or.inr ⟨rfl, rfl, by decide⟩, ?_, ?_, hCV, hRS⟩
            · apply wp_out
              unfold m_X8_choice
              refine wp_eq eu (wp_eq ev (wp_gd (by omega) (wp_if (fun c => absurd c (by omega)) (fun _ => wp_gd h2 (wp_if (fun c => absurd c (by omega)) (fun _ => wp_gd (by omega) (wp_if (fun _ => wp_gd h3 (wp_if (fun _ => wp_gd hc2 ?_) (fun c => absurd k0' c))) (fun c => absurd (by omega) c))))))))
              rw [m1, h540]
              exact wp_eq q_wordOfG (wp_some rfl)
            · apply wp_out
              unfold m_X9_choice
              refine wp_eq ew (wp_gd h1 (wp_if (fun c => absurd c (by omega)) (fun _ => wp_gd (by omega) (wp_if (fun c => absurd c (by omega)) (fun _ => wp_gd h3 (wp_if (fun c => absurd c (by omega)) (fun _ => wp_if (fun _ => wp_eq es ?_) (fun c => absurd hx3.2 c))))))))
              exact wp_gd h2 (wp_if (fun c => absurd c (by omega)) (fun _ => wp_gd (by omega) (wp_if (fun _ => wp_if (fun _ => wp_gd hc2 (wp_gd (by omega) (wp_if (fun _ => wp_some rfl) (fun c => absurd (by omega) c)))) (fun c => absurd k0' c)) (fun c => absurd (by omega) c))))
          · refine ⟨(u0, u1, u2, u3, u4, u5, u6, u7, u8, u9, u10, u11, u12, u13, u14, u15, u16, u17, u18, u19, u20), (v0, v1, v2, v3, v4, v5, v6, v7, v8, v9, v10, v11, v12, v13), (w0, w1, w2, w3, w4, w5, w6, w7, w8, w9, w10, w11, w12, w13, w14, w15), (s0, s1, s2, s3), 0, s0 x2.toNat, s0 x2.toNat, Or.inr ⟨rfl, rfl, by omega⟩, ?_, ?_, hCV, hRS⟩
            · apply wp_out
              unfold m_X8_choice
              refine wp_eq eu (wp_eq ev (wp_gd (by omega) (wp_if (fun c => absurd c (by omega)) (fun _ => wp_gd h2 (wp_if (fun c => absurd c (by omega)) (fun _ => wp_gd (by omega) (wp_if (fun _ => wp_gd h3 (wp_if (fun _ => wp_gd hc2 ?_) (fun c => absurd k0' c))) (fun c => absurd (by omega) c))))))))
              rw [m1]
              refine wp_eq (q_wordOf (by omega)) (wp_some ?_)
              rw [show (e : Int) / 9 = s0 x2.toNat by omega]
            · apply wp_out
              unfold m_X9_choice
              refine wp_eq ew (wp_gd h1 (wp_if (fun c => absurd c (by omega)) (fun _ => wp_gd (by omega) (wp_if (fun c => absurd c (by omega)) (fun _ => wp_gd h3 (wp_if (fun c => absurd c (by omega)) (fun _ => wp_if (fun _ => wp_eq es ?_) (fun c => absurd hx3.2 c))))))))
              exact wp_gd h2 (wp_if (fun c => absurd c (by omega)) (fun _ => wp_gd (by omega) (wp_if (fun _ => wp_if (fun _ => wp_gd hc2 (wp_gd (by omega) (wp_if (fun c => absurd c (by omega)) (fun _ => wp_gd hc2 (wp_some rfl))))) (fun c => absurd k0' c)) (fun c => absurd (by omega) c))))
        · by_cases k1' : x3 = 1
          · refine ⟨(u0, u1, u2, u3, u4, u5, u6, u7, u8, u9, u10, u11, u12, u13, u14, u15, u16, u17, u18, u19, u20), (v0, v1, v2, v3, v4, v5, v6, v7, v8, v9, v10, v11, v12, v13), (w0, w1, w2, w3, w4, w5, w6, w7, w8, w9, w10, w11, w12, w13, w14, w15), (s0, s1, s2, s3), 0, s1 x2.toNat, s1 x2.toNat, Or.inr ⟨rfl, rfl, by omega⟩, ?_, ?_, hCV, hRS⟩
            · apply wp_out
              unfold m_X8_choice
              refine wp_eq eu (wp_eq ev (wp_gd (by omega) (wp_if (fun c => absurd c (by omega)) (fun _ => wp_gd h2 (wp_if (fun c => absurd c (by omega)) (fun _ => wp_gd (by omega) (wp_if (fun _ => wp_gd h3 (wp_if (fun c => absurd c k0') (fun _ => wp_if (fun _ => wp_gd hc2 ?_) (fun c => absurd k1' c)))) (fun c => absurd (by omega) c))))))))
              rw [m1]
              by_cases h540 : e = 540
              · rw [h540]
                refine wp_eq q_endingOfG (wp_some ?_)
                rw [m7 (by omega)]
              · refine wp_eq (q_endingOf (by omega)) (wp_some ?_)
                rw [show (e : Int) % 9 - 1 = s1 x2.toNat by omega]
            · apply wp_out
              unfold m_X9_choice
              refine wp_eq ew (wp_gd h1 (wp_if (fun c => absurd c (by omega)) (fun _ => wp_gd (by omega) (wp_if (fun c => absurd c (by omega)) (fun _ => wp_gd h3 (wp_if (fun c => absurd c (by omega)) (fun _ => wp_if (fun _ => wp_eq es ?_) (fun c => absurd hx3.2 c))))))))
              exact wp_gd h2 (wp_if (fun c => absurd c (by omega)) (fun _ => wp_gd (by omega) (wp_if (fun _ => wp_if (fun c => absurd c k0') (fun _ => wp_if (fun _ => wp_gd hc2 (wp_some rfl)) (fun c => absurd k1' c))) (fun c => absurd (by omega) c))))
          · have k2' : x3 = 2 := by omega
            refine ⟨(u0, u1, u2, u3, u4, u5, u6, u7, u8, u9, u10, u11, u12, u13, u14, u15, u16, u17, u18, u19, u20), (v0, v1, v2, v3, v4, v5, v6, v7, v8, v9, v10, v11, v12, v13), (w0, w1, w2, w3, w4, w5, w6, w7, w8, w9, w10, w11, w12, w13, w14, w15), (s0, s1, s2, s3), 0, s2 x2.toNat, s2 x2.toNat, Or.inr ⟨rfl, rfl, hsI _⟩, ?_, ?_, hCV, hRS⟩
            · apply wp_out
              unfold m_X8_choice
              refine wp_eq eu (wp_eq ev (wp_gd (by omega) (wp_if (fun c => absurd c (by omega)) (fun _ => wp_gd h2 (wp_if (fun c => absurd c (by omega)) (fun _ => wp_gd (by omega) (wp_if (fun _ => wp_gd h3 (wp_if (fun c => absurd c k0') (fun _ => wp_if (fun c => absurd c k1') (fun _ => wp_if (fun _ => wp_gd hc2 ?_) (fun c => absurd k2' c))))) (fun c => absurd (by omega) c))))))))
              rw [m4]
              exact wp_some rfl
            · apply wp_out
              unfold m_X9_choice
              refine wp_eq ew (wp_gd h1 (wp_if (fun c => absurd c (by omega)) (fun _ => wp_gd (by omega) (wp_if (fun c => absurd c (by omega)) (fun _ => wp_gd h3 (wp_if (fun c => absurd c (by omega)) (fun _ => wp_if (fun _ => wp_eq es ?_) (fun c => absurd hx3.2 c))))))))
              exact wp_gd h2 (wp_if (fun c => absurd c (by omega)) (fun _ => wp_gd (by omega) (wp_if (fun _ => wp_if (fun c => absurd c k0') (fun _ => wp_if (fun c => absurd c k1') (fun _ => wp_gd hc2 (wp_some rfl)))) (fun c => absurd (by omega) c))))
      · refine ⟨(u0, u1, u2, u3, u4, u5, u6, u7, u8, u9, u10, u11, u12, u13, u14, u15, u16, u17, u18, u19, u20), (v0, v1, v2, v3, v4, v5, v6, v7, v8, v9, v10, v11, v12, v13), (w0, w1, w2, w3, w4, w5, w6, w7, w8, w9, w10, w11, w12, w13, w14, w15), (s0, s1, s2, s3), 1, 0, 0, Or.inl rfl, ?_, ?_, hCV, hRS⟩
        · apply wp_out
          unfold m_X8_choice
          exact wp_eq eu (wp_eq ev (wp_gd (by omega) (wp_if (fun c => absurd c (by omega)) (fun _ => wp_gd h2 (wp_if (fun _ => wp_some rfl) (fun _ => wp_gd (by omega) (wp_if (fun c => absurd c (by omega)) (fun _ => wp_some rfl))))))))
        · apply wp_out
          unfold m_X9_choice m_X9_choice_52 m_X9_fail
          refine wp_eq ew (wp_gd h1 (wp_if (fun c => absurd c (by omega)) (fun _ => wp_gd (by omega) (wp_if (fun c => absurd c (by omega)) (fun _ => wp_gd h3 (wp_if (fun c => absurd c (by omega)) (fun _ => wp_if (fun _ => wp_eq es ?_) (fun c => absurd hx3.2 c))))))))
          exact wp_gd h2 (wp_if (fun _ => wp_some rfl) (fun _ => wp_gd (by omega) (wp_if (fun c => absurd c (by omega)) (fun _ => wp_some rfl))))
    · refine ⟨(u0, u1, u2, u3, u4, u5, u6, u7, u8, u9, u10, u11, u12, u13, u14, u15, u16, u17, u18, u19, u20), (v0, v1, v2, v3, v4, v5, v6, v7, v8, v9, v10, v11, v12, v13), (w0, w1, w2, w3, w4, w5, w6, w7, w8, w9, w10, w11, w12, w13, w14, w15), (cW, cE, cC, ch), 1, 0, 0, Or.inl rfl, ?_, ?_, hCV, hRW⟩
      · apply wp_out
        unfold m_X8_choice
        exact wp_eq eu (wp_eq ev (wp_gd (by omega) (wp_if (fun c => absurd c (by omega)) (fun _ => wp_gd h2 (wp_if (fun _ => wp_some rfl) (fun _ => wp_gd (by omega) (wp_if (fun _ => wp_gd h3 (wp_if (fun c => absurd c (by omega)) (fun _ => wp_if (fun c => absurd c (by omega)) (fun _ => wp_if (fun c => absurd c (by omega)) (fun _ => wp_some rfl))))) (fun _ => wp_some rfl))))))))
      · apply wp_out
        unfold m_X9_choice m_X9_choice_30 m_X9_fail
        exact wp_eq ew (wp_gd h1 (wp_if (fun c => absurd c (by omega)) (fun _ => wp_gd (by omega) (wp_if (fun c => absurd c (by omega)) (fun _ => wp_gd h3 (wp_if (fun _ => wp_some rfl) (fun _ => wp_if (fun c => absurd c (by omega)) (fun _ => wp_some rfl))))))))
/-- the breaks when a part is fixed -/
def brk (br : Nat → Int) (a b n : Nat) : Nat → Int := fun i => if a < i ∧ i < b then 2 else if (i = a ∧ 0 < a) ∨ (i = b ∧ b < n) then 1 else br i
theorem brk_class {br : Nat → Int} {a b n : Nat} (hab : a < b) (hbn : b ≤ n) : (if 0 < b ∧ b < n then uz (if 0 < a ∧ a < n then uz (fz br (a + 1) b 2) a 1 else fz br (a + 1) b 2) b 1 else (if 0 < a ∧ a < n then uz (fz br (a + 1) b 2) a 1 else fz br (a + 1) b 2)) = brk br a b n := by
  funext i
  unfold brk
  by_cases c1 : 0 < b ∧ b < n
  · rw [if_pos c1]
    by_cases c2 : 0 < a ∧ a < n
    · rw [if_pos c2]
      unfold uz fz
      (repeat' split) <;> first | rfl | (exfalso; omega)
    · rw [if_neg c2]
      unfold uz fz
      (repeat' split) <;> first | rfl | (exfalso; omega)
  · rw [if_neg c1]
    by_cases c2 : 0 < a ∧ a < n
    · rw [if_pos c2]
      unfold uz fz
      (repeat' split) <;> first | rfl | (exfalso; omega)
    · rw [if_neg c2]
      unfold fz
      (repeat' split) <;> first | rfl | (exfalso; omega)
theorem upS_self (B : Nat → Nat → Int) : upS B (B 17) (B 19) = B := by
  funext j
  unfold upS upB
  by_cases h19 : j = 19
  · rw [if_pos h19, h19]
  · rw [if_neg h19]
    by_cases h17 : j = 17
    · rw [if_pos h17, h17]
    · rw [if_neg h17]
set_option maxHeartbeats 4000000 in
theorem z_choose {k : Nat} {B : Nat → Nat → Int} {sc t : Nat → Int} {n fm : Nat} {r : r4} {ring : List zSv} {nx kp : Nat} {o : r8} (hG : GD k B sc) (hS : SHT B t n fm r.1 r.2.1 r.2.2.1 r.2.2.2) (hA : ACT B ring nx kp o) {tails leads : Nat → Int} {lk lp olen : Int} {oE oC fv heads rests : Nat → Int} {rk rtot rlen : Int} {bg en et co vals lr : Nat → Int} {vc : Int} {now next : Nat → Int} {low high : Int} {seeds lows : Nat → Int} (nA xA : Nat) (hC : CC B t n tails leads lk lp olen oE oC fv heads rests rk rtot rlen bg en et co vals lr vc now next low high seeds lows) {ir im : Int} {tb re ne rest ahead : Nat → Int} {parts total : Int} {pF pT pW pE : Nat → Int} {cC : Nat → Int} (code fo f0 k0 : Int) (cW cE : Nat → Int) (ch : Int) (hR : RC B t n ir im tb re ne rest ahead parts total pF pT pW pE cC) {x1 x2 : Int} (h1 : inI x1) (h2 : inI x2) :
    ∃ (u : T21) (v : T14) (w : T16) (s : st4) (cd : Int) (ring' : List zSv) (nx' kp' : Nat) (o' : r8) (br' fx' : Nat → Int) (fm' : Nat) (r' : r4) (lk' lp' rk' ir' : Int), (cd = 0 ∨ cd = 1) ∧ m_X8_choose x1 x2 ring nx kp (B 0) (B 1) (B 2) (B 3) (B 18 0) (B 4) (B 6) (B 7) (B 8) (B 18 1) (B 9) (B 11) (B 12) (B 13) sc tails leads lk lp olen oE oC fv heads rests rk rtot rlen bg en et co n t (B 17) (B 19) vals lr vc now nA next xA low high seeds lows = some (cd, ring', (nx' : Int), (kp' : Int), v.2.1, v.2.2.1, lk', lp', v.2.2.2.2.2.1, v.2.2.2.2.2.2.1, v.2.2.2.2.2.2.2.1, u.1, u.2.1, u.2.2.1, rk', u.2.2.2.2.1, u.2.2.2.2.2.1, u.2.2.2.2.2.2.1, u.2.2.2.2.2.2.2.1, u.2.2.2.2.2.2.2.2.1, u.2.2.2.2.2.2.2.2.2.1, br', fx', u.2.2.2.2.2.2.2.2.2.2.1, u.2.2.2.2.2.2.2.2.2.2.2.1, u.2.2.2.2.2.2.2.2.2.2.2.2.1, v.2.2.2.2.2.2.2.2.1, v.2.2.2.2.2.2.2.2.2.1, v.2.2.2.2.2.2.2.2.2.2.1, v.2.2.2.2.2.2.2.2.2.2.2.1, v.2.2.2.2.2.2.2.2.2.2.2.2.1, v.2.2.2.2.2.2.2.2.2.2.2.2.2, u.2.2.2.2.2.2.2.2.2.2.2.2.2.2.2.2.2.2.2.1, u.2.2.2.2.2.2.2.2.2.2.2.2.2.2.2.2.2.2.2.2) ∧ m_X9_choose x1 x2 code (B 0) (B 3) (B 1) (B 4) (B 9) (B 6) (B 7) (B 8) (B 11) (B 12) (B 18 0) (B 18 1) (B 13 0) (B 13 1) (B 13 2) (B 14) (B 15) n fm t (B 17) r.1 r.2.1 r.2.2.1 r.2.2.2 kp o.1 o.2.1 o.2.2.1 o.2.2.2.1 o.2.2.2.2.1 o.2.2.2.2.2.1 o.2.2.2.2.2.2.1 o.2.2.2.2.2.2.2 ir im tb re ne rest ahead parts total pF pT pW pE fo f0 k0 cW cE cC ch = some (cd, (fm' : Int), br', r'.1, r'.2.1, r'.2.2.1, r'.2.2.2, (kp' : Int), o'.1, o'.2.1, o'.2.2.1, o'.2.2.2.1, o'.2.2.2.2.1, o'.2.2.2.2.2.1, o'.2.2.2.2.2.2.1, o'.2.2.2.2.2.2.2, ir', w.2.1, w.2.2.1, w.2.2.2.1, w.2.2.2.2.1, w.2.2.2.2.2.1, w.2.2.2.2.2.2.1, w.2.2.2.2.2.2.2.1, w.2.2.2.2.2.2.2.2.1, w.2.2.2.2.2.2.2.2.2.1, w.2.2.2.2.2.2.2.2.2.2.1, w.2.2.2.2.2.2.2.2.2.2.2.1, w.2.2.2.2.2.2.2.2.2.2.2.2.1, w.2.2.2.2.2.2.2.2.2.2.2.2.2.1, w.2.2.2.2.2.2.2.2.2.2.2.2.2.2.1, w.2.2.2.2.2.2.2.2.2.2.2.2.2.2.2, s.1, s.2.1, s.2.2.1, s.2.2.2) ∧ CC (upS B br' fx') t n v.2.1 v.2.2.1 lk' lp' v.2.2.2.2.2.1 v.2.2.2.2.2.2.1 v.2.2.2.2.2.2.2.1 u.1 u.2.1 u.2.2.1 rk' u.2.2.2.2.1 u.2.2.2.2.2.1 u.2.2.2.2.2.2.1 u.2.2.2.2.2.2.2.1 u.2.2.2.2.2.2.2.2.1 u.2.2.2.2.2.2.2.2.2.1 u.2.2.2.2.2.2.2.2.2.2.1 u.2.2.2.2.2.2.2.2.2.2.2.1 u.2.2.2.2.2.2.2.2.2.2.2.2.1 v.2.2.2.2.2.2.2.2.1 v.2.2.2.2.2.2.2.2.2.2.1 v.2.2.2.2.2.2.2.2.2.2.2.2.1 v.2.2.2.2.2.2.2.2.2.2.2.2.2 u.2.2.2.2.2.2.2.2.2.2.2.2.2.2.2.2.2.2.2.1 u.2.2.2.2.2.2.2.2.2.2.2.2.2.2.2.2.2.2.2.2 ∧ RC (upS B br' fx') t n ir' w.2.1 w.2.2.1 w.2.2.2.1 w.2.2.2.2.1 w.2.2.2.2.2.1 w.2.2.2.2.2.2.1 w.2.2.2.2.2.2.2.1 w.2.2.2.2.2.2.2.2.1 w.2.2.2.2.2.2.2.2.2.1 w.2.2.2.2.2.2.2.2.2.2.1 w.2.2.2.2.2.2.2.2.2.2.2.1 w.2.2.2.2.2.2.2.2.2.2.2.2.1 s.2.2.1 ∧ SHT (upS B br' fx') t n fm' r'.1 r'.2.1 r'.2.2.1 r'.2.2.2 ∧ ACT (upS B br' fx') ring' nx' kp' o' ∧ (∀ i, inI (br' i)) ∧ ∀ i, inI (fx' i) := by
  obtain ⟨u, v, w, eu, ew, ev, hCV, hRW, P, g1, g2, g3, hv⟩ := z_both hG hS nA xA hC fo f0 k0 cW cE ch hR h1
  obtain ⟨u0, u1, u2, u3, u4, u5, u6, u7, u8, u9, u10, u11, u12, u13, u14, u15, u16, u17, u18, u19, u20⟩ := u
  obtain ⟨w0, w1, w2, w3, w4, w5, w6, w7, w8, w9, w10, w11, w12, w13, w14, w15⟩ := w
  obtain ⟨v0, v1, v2, v3, v4, v5, v6, v7, v8, v9, v10, v11, v12, v13⟩ := v
  have g1 : u5 = (P : Int) := g1
  have g2 : w7 = (P : Int) := g2
  have hB := hG.1
  obtain ⟨hn, ht, h36, hF, hFi⟩ := id hS
  have h17 := fun i => hB.1 17 i (by decide) (by decide) (by decide)
  have h19 := fun i => hB.1 19 i (by decide) (by decide) (by decide)
  have hfm := hF.1
  rcases hv with ⟨a1, a2⟩ | ⟨a1, a2, a, b, a3, a4, a5, a6, a7, a8, s, es, hsI, len, l1, l2, l3, l4⟩
  · have a1 : v0 = 0 := a1
    refine ⟨(u0, u1, u2, u3, u4, u5, u6, u7, u8, u9, u10, u11, u12, u13, u14, u15, u16, u17, u18, u19, u20), (v0, v1, v2, v3, v4, v5, v6, v7, v8, v9, v10, v11, v12, v13), (w0, w1, w2, w3, w4, w5, w6, w7, w8, w9, w10, w11, w12, w13, w14, w15), (cW, cE, cC, ch), 1, ring, nx, kp, o, B 17, B 19, fm, r, v3, v4, u3, w0, Or.inr rfl, ?_, ?_, by rw [upS_self]; exact hCV, by rw [upS_self]; exact hRW, by rw [upS_self]; exact hS, by rw [upS_self]; exact hA, h17, h19⟩
    · apply wp_out
      unfold m_X8_choose
      exact wp_eq eu (wp_eq ev (wp_gd (by omega) (wp_if (fun _ => wp_some rfl) (fun c => absurd a1 c))))
    · apply wp_out
      unfold m_X9_choose
      exact wp_eq ew (wp_gd h1 (wp_if (fun _ => wp_some rfl) (fun _ => wp_gd (by omega) (wp_if (fun c => absurd c (by omega)) (fun _ => wp_some rfl)))))
  · have a1 : v0 = 1 := a1
    obtain ⟨s0, s1, s2, s3⟩ := s
    have l1 : v5 = (len : Int) := l1
    have l2 : s3 = (len : Int) := l2
    have hRS : RC B t n w0 w1 w2 w3 w4 w5 w6 w7 w8 w9 w10 w11 w12 s2 := ⟨hRW.1, hRW.2.1, hRW.2.2.1, hRW.2.2.2.1, hRW.2.2.2.2.1, hsI, hRW.2.2.2.2.2.2⟩
    by_cases hx2 : 0 ≤ x2 ∧ x2 < (len : Int)
    · obtain ⟨e, m1, m2, m3, m4, m5, m6, m7, m8⟩ := l4 x2.toNat (by omega)
      have m1 : v6 x2.toNat = (e : Int) := m1
      have m2 : (e : Int) = 9 * s0 x2.toNat + s1 x2.toNat + 1 := m2
      have m5 : 0 ≤ s0 x2.toNat ∧ s0 x2.toNat ≤ 60 := m5
      have m6 : -1 ≤ s1 x2.toNat ∧ s1 x2.toNat < 8 := m6
      have m7 : s0 x2.toNat = 60 → s1 x2.toNat = -1 := m7
      have a3 : u6 x1.toNat = (a : Int) := a3
      have a4 : u7 x1.toNat = (b : Int) := a4
      have a5 : w9 x1.toNat = (a : Int) := a5
      have a6 : w10 x1.toNat = (b : Int) := a6
      have hc1 : (0 : Int) ≤ x1 ∧ x1 < 36 := by omega
      have hc2 : (0 : Int) ≤ x2 ∧ x2 < 12 := by omega
      obtain ⟨ring', nx', kp', o', ea, er, hA'⟩ := z_act hA hn ht h17 h19 (h36 36 (by omega)) hF hFi v3 v4 u3 w0
      obtain ⟨fx, efx, hx', hx''⟩ := q_fix (fx := B 19) (br := B 17) h19 hn a7 a8 (e := e) (x1 := (a : Int)) (x2 := (b : Int)) (x3 := (e : Int)) (sl := (n : Int)) rfl rfl rfl rfl
      rw [brk_class a7 a8] at hx''
      obtain ⟨⟨m', ra, rb, rc, rd⟩, eun, to, e1, hP, hI4⟩ := q_unfix hfm (o := r) hFi (x1 := (a : Int)) (x2 := (b : Int)) (mm := (fm : Int)) (by omega) (by omega) rfl
      have e1 : m' = (to : Int) := e1
      subst e1
      have hP : FP (fun f => ¬ (r.1 f < (b : Int) ∧ (a : Int) < r.2.1 f)) r fm to (ra, rb, rc, rd) := hP
      have hI4 : i4 (ra, rb, rc, rd) := hI4
      obtain ⟨hto, hFX⟩ := FX_choose (B' := upS B (brk (B 17) a b n) fx.2) (upS_same _ _ _) hn a7 a8 hF hP (w := s0 x2.toNat) (e := s1 x2.toNat) ⟨m5.1, m5.2, m6.1, m6.2, m7⟩ (by rw [← m2]; exact m8) (by rw [upS_19, hx', m2]) (fun p p1 p2 => by rw [upS_17]; unfold brk; rw [if_pos ⟨p1, p2⟩]) (fun p0 => by rw [upS_17]; unfold brk; rw [if_neg (by omega), if_pos (Or.inl ⟨rfl, p0⟩)]) (fun p0 => by rw [upS_17]; unfold brk; rw [if_neg (by omega), if_pos (Or.inr ⟨rfl, p0⟩)]) (fun p p0 => by rw [upS_17]; unfold brk; rw [if_neg (by omega), if_neg (by omega)])
      have hbrI : ∀ i, inI (brk (B 17) a b n i) := by
        intro i
        unfold brk
        (repeat' split) <;> first | decide | exact h17 i
      have hfxI : ∀ i, inI (fx.2 i) := by
        rw [hx']
        exact uz_inI (zap_inI h19 _) (by omega)
      refine ⟨(u0, u1, u2, u3, u4, u5, u6, u7, u8, u9, u10, u11, u12, u13, u14, u15, u16, u17, u18, u19, u20), (v0, v1, v2, v3, v4, v5, v6, v7, v8, v9, v10, v11, v12, v13), (w0, w1, w2, w3, w4, w5, w6, w7, w8, w9, w10, w11, w12, w13, w14, w15), (s0, s1, s2, s3), 0, ring', nx', kp', o', brk (B 17) a b n, fx.2, to + 1, (uz ra to a, uz rb to b, uz rc to (s0 x2.toNat), uz rd to (s1 x2.toNat)), 0, -1, 0, 0, Or.inl rfl, ?_, ?_, CC.line hCV (smV_sheet (upS_same _ _ _)), RC.line hRS (smV_sheet (upS_same _ _ _)).1, ⟨hn, ht, fun i hi => ?_, hFX, fun i => ⟨?_, ?_, ?_, ?_⟩⟩, hA'.mono (fun e he => (upS_EV _ _ _ e).mpr he), hbrI, hfxI⟩
      · apply wp_out
        unfold m_X8_choose
        refine wp_eq eu (wp_eq ev (wp_gd (by omega) (wp_if (fun c => absurd c (by omega)) (fun _ => wp_gd h2 (wp_if (fun c => absurd c (by omega)) (fun _ => wp_gd (by omega) (wp_if (fun _ => wp_gd hc2 (wp_vl (wp_eq ea (wp_gd hc1 (wp_gd hc1 ?_))))) (fun c => absurd (by omega) c))))))))
        rw [a3, a4, m1]
        refine wp_eq efx (wp_some ?_)
        rw [hx'']
      · apply wp_out
        unfold m_X9_choose
        refine wp_eq ew (wp_gd h1 (wp_if (fun c => absurd c (by omega)) (fun _ => wp_gd (by omega) (wp_if (fun _ => wp_eq es (wp_gd h2 (wp_if (fun c => absurd c (by omega)) (fun _ => wp_gd (by omega) (wp_if (fun _ => wp_eq er (wp_gd hc1 (wp_vl (wp_gd hc1 (wp_vl ?_))))) (fun c => absurd (by omega) c)))))) (fun c => absurd (by omega) c)))))
        rw [a5, a6]
        have htn : (0 : Int) ≤ (to : Int) ∧ (to : Int) < 36 := by omega
        refine wp_eq eun ?_
        dsimp only
        rw [show Int.toNat (to : Int) = to by omega]
        refine wp_gd htn (wp_vl (wp_gd htn (wp_vl (wp_gd hc2 (wp_gd htn (wp_vl (wp_gd hc2 (wp_gd htn (wp_vl (wp_vl (wp_gd (by omega) ?_)))))))))))
        have htail : ∀ br1 : Nat → Int, (fun i => if a < i ∧ i < b then 2 else if i = b ∧ b < n then 1 else br1 i) = brk (B 17) a b n → m_X9_choose_148 (a : Int) (b : Int) 0 (B 0) (B 3) (B 1) (B 4) (B 9) (B 6) (B 7) (B 8) (B 11) (B 12) (B 18 0) (B 18 1) (B 13 0) (B 13 1) (B 13 2) (B 14) (B 15) n ((to : Int) + 1) t br1 (uz ra to a) (uz rb to b) (uz rc to (s0 x2.toNat)) (uz rd to (s1 x2.toNat)) kp' o'.1 o'.2.1 o'.2.2.1 o'.2.2.2.1 o'.2.2.2.2.1 o'.2.2.2.2.2.1 o'.2.2.2.2.2.2.1 o'.2.2.2.2.2.2.2 0 w1 w2 w3 w4 w5 w6 w7 w8 w9 w10 w11 w12 w13 w14 w15 s0 s1 s2 s3 = some (0, ((to + 1 : Nat) : Int), brk (B 17) a b n, uz ra to a, uz rb to b, uz rc to (s0 x2.toNat), uz rd to (s1 x2.toNat), (kp' : Int), o'.1, o'.2.1, o'.2.2.1, o'.2.2.2.1, o'.2.2.2.2.1, o'.2.2.2.2.2.1, o'.2.2.2.2.2.2.1, o'.2.2.2.2.2.2.2, 0, w1, w2, w3, w4, w5, w6, w7, w8, w9, w10, w11, w12, w13, w14, w15, s0, s1, s2, s3) := by
          intro br1 hbr
          have h165 : ∀ br2 : Nat → Int, fz br2 (a + 1) b 2 = brk (B 17) a b n → m_X9_choose_165 (a : Int) (b : Int) 0 (B 0) (B 3) (B 1) (B 4) (B 9) (B 6) (B 7) (B 8) (B 11) (B 12) (B 18 0) (B 18 1) (B 13 0) (B 13 1) (B 13 2) (B 14) (B 15) n ((to : Int) + 1) t br2 (uz ra to a) (uz rb to b) (uz rc to (s0 x2.toNat)) (uz rd to (s1 x2.toNat)) kp' o'.1 o'.2.1 o'.2.2.1 o'.2.2.2.1 o'.2.2.2.2.1 o'.2.2.2.2.2.1 o'.2.2.2.2.2.2.1 o'.2.2.2.2.2.2.2 0 w1 w2 w3 w4 w5 w6 w7 w8 w9 w10 w11 w12 w13 w14 w15 s0 s1 s2 s3 = some (0, ((to + 1 : Nat) : Int), brk (B 17) a b n, uz ra to a, uz rb to b, uz rc to (s0 x2.toNat), uz rd to (s1 x2.toNat), (kp' : Int), o'.1, o'.2.1, o'.2.2.1, o'.2.2.2.1, o'.2.2.2.2.1, o'.2.2.2.2.2.1, o'.2.2.2.2.2.2.1, o'.2.2.2.2.2.2.2, 0, w1, w2, w3, w4, w5, w6, w7, w8, w9, w10, w11, w12, w13, w14, w15, s0, s1, s2, s3) := by
            intro br2 hbr2
            apply wp_out
            unfold m_X9_choose_165
            refine wp_vl (wp_bind (P := fun y : Nat × Int × (Nat → Int) => y.2.2 = brk (B 17) a b n) (wp_loop (fun q y => y.1 = ((a + 1 + q : Nat) : Int) ∧ y.2 = fz br2 (a + 1) (a + 1 + q) 2) (b - (a + 1)) (by omega) ⟨by show (a : Int) + 1 = _; omega, (fz_nil br2 2 (by omega)).symm⟩ ?_) ?_)
            · intro q y hq hy
              obtain ⟨y1, y2⟩ := hy
              unfold m_X9_choose_170
              refine wp_gd (by omega) (wp_gd (by omega) (wp_if (fun c => ?_) (fun c => ?_)))
              · refine wp_end (by decide) ?_
                show y.2 = _
                rw [y2, show a + 1 + q = b by omega]
                exact hbr2
              · refine wp_gd (by omega) (wp_vl (wp_vl (wp_go ⟨by omega, by show y.1 + 1 = _; omega, ?_⟩)))
                show uz y.2 y.1.toNat 2 = _
                rw [y2, show y.1.toNat = a + 1 + q by omega, fz_step br2 2 (by omega)]
                rfl
            · rintro ⟨t170, x170, b170⟩ hu
              have hu : b170 = _ := hu
              subst hu
              exact wp_some rfl
          apply wp_out
          unfold m_X9_choose_148
          rw [show Int.toNat (b : Int) = b by omega]
          refine wp_gd (by omega) (wp_gd (by omega) (wp_if (fun c => ?_) (fun c => ?_)))
          · refine wp_of (h165 br1 ?_) rfl
            rw [← hbr]
            funext i
            unfold fz
            (repeat' split) <;> first | rfl | (exfalso; omega)
          · refine wp_gd (by omega) (wp_vl (wp_of (h165 _ ?_) rfl))
            rw [← hbr]
            funext i
            unfold fz uz
            (repeat' split) <;> first | rfl | (exfalso; omega)
        refine wp_if (fun c => ?_) (fun c => ?_)
        · refine wp_of (htail (B 17) ?_) rfl
          funext i
          unfold brk
          (repeat' split) <;> first | rfl | (exfalso; omega)
        · rw [show Int.toNat (a : Int) = a by omega]
          refine wp_gd (by omega) (wp_vl (wp_of (htail _ ?_) rfl))
          funext i
          unfold brk uz
          (repeat' split) <;> first | rfl | (exfalso; omega)
      · rw [upS_17]
        unfold brk
        rw [if_neg (by omega), if_neg (by omega)]
        exact h36 i hi
      · exact uz_inI (fun j => (hI4 j).1) (by omega) i
      · exact uz_inI (fun j => (hI4 j).2.1) (by omega) i
      · exact uz_inI (fun j => (hI4 j).2.2.1) (by omega) i
      · exact uz_inI (fun j => (hI4 j).2.2.2) (by omega) i
    · refine ⟨(u0, u1, u2, u3, u4, u5, u6, u7, u8, u9, u10, u11, u12, u13, u14, u15, u16, u17, u18, u19, u20), (v0, v1, v2, v3, v4, v5, v6, v7, v8, v9, v10, v11, v12, v13), (w0, w1, w2, w3, w4, w5, w6, w7, w8, w9, w10, w11, w12, w13, w14, w15), (s0, s1, s2, s3), 1, ring, nx, kp, o, B 17, B 19, fm, r, v3, v4, u3, w0, Or.inr rfl, ?_, ?_, by rw [upS_self]; exact hCV, by rw [upS_self]; exact hRS, by rw [upS_self]; exact hS, by rw [upS_self]; exact hA, h17, h19⟩
      · apply wp_out
        unfold m_X8_choose
        exact wp_eq eu (wp_eq ev (wp_gd (by omega) (wp_if (fun c => absurd c (by omega)) (fun _ => wp_gd h2 (wp_if (fun _ => wp_some rfl) (fun _ => wp_gd (by omega) (wp_if (fun c => absurd c (by omega)) (fun _ => wp_some rfl))))))))
      · apply wp_out
        unfold m_X9_choose
        exact wp_eq ew (wp_gd h1 (wp_if (fun c => absurd c (by omega)) (fun _ => wp_gd (by omega) (wp_if (fun _ => wp_eq es (wp_gd h2 (wp_if (fun _ => wp_some rfl) (fun _ => wp_gd (by omega) (wp_if (fun c => absurd c (by omega)) (fun _ => wp_some rfl)))))) (fun c => absurd (by omega) c)))))
