/-! a line is taken, or unlearnt, on both sides -/
theorem TKN.less {B : Nat → Nat → Int} {K K' : Nat} {te tl kM kW kK : Nat → Int} (h : TKN B K te tl kM kW kK) (hK : K' ≤ K) : TKN B K' te tl kM kW kK := ⟨Nat.le_trans hK h.1, fun i hi => h.2 i (by omega)⟩
set_option maxHeartbeats 2000000 in
theorem z_take {k : Nat} {B : Nat → Nat → Int} {sc t : Nat → Int} {n fm K : Nat} {kp : Int} {r : r4} (hk : k ≤ 600) (hG : GD k B sc) (hS : SHT B t n fm r.1 r.2.1 r.2.2.1 r.2.2.2) {tails leads : Nat → Int} {lk lp olen : Int} {oE oC fv heads rests : Nat → Int} {rk rtot rlen : Int} {bg en et co vals lr : Nat → Int} {vc : Int} {now next : Nat → Int} {low high : Int} {seeds lows : Nat → Int} (nA xA : Nat) (hC : CC B t n tails leads lk lp olen oE oC fv heads rests rk rtot rlen bg en et co vals lr vc now next low high seeds lows) {ir im : Int} {tb re ne rest ahead : Nat → Int} {parts total : Int} {pF pT pW pE : Nat → Int} {cC : Nat → Int} (code fo f0 k0 : Int) (hR : RC B t n ir im tb re ne rest ahead parts total pF pT pW pE cC) {te tl kM kW kK : Nat → Int} (hTK : TKN B K te tl kM kW kK) :
    (∃ (u : T21) (w : T16), m_X8_take kp (B 0) (B 1) (B 2) (B 3) (B 18 0) (B 4) (B 6) (B 7) (B 8) (B 18 1) (B 9) (B 11) (B 12) (B 13) (B 14) (B 15) sc lk lp fv heads rests rk rtot rlen bg en et co n t (B 17) (B 19) vals lr vc now nA next xA low high seeds lows te tl K = some (-1, kp, B 8, B 14, B 15, sc, lk, lp, u.1, u.2.1, u.2.2.1, u.2.2.2.1, u.2.2.2.2.1, u.2.2.2.2.2.1, u.2.2.2.2.2.2.1, u.2.2.2.2.2.2.2.1, u.2.2.2.2.2.2.2.2.1, u.2.2.2.2.2.2.2.2.2.1, (n : Int), B 17, B 19, u.2.2.2.2.2.2.2.2.2.2.1, u.2.2.2.2.2.2.2.2.2.2.2.1, u.2.2.2.2.2.2.2.2.2.2.2.2.1, u.2.2.2.2.2.2.2.2.2.2.2.2.2.1, u.2.2.2.2.2.2.2.2.2.2.2.2.2.2.1, u.2.2.2.2.2.2.2.2.2.2.2.2.2.2.2.1, u.2.2.2.2.2.2.2.2.2.2.2.2.2.2.2.2.1, u.2.2.2.2.2.2.2.2.2.2.2.2.2.2.2.2.2.1, u.2.2.2.2.2.2.2.2.2.2.2.2.2.2.2.2.2.2.1, u.2.2.2.2.2.2.2.2.2.2.2.2.2.2.2.2.2.2.2.1, u.2.2.2.2.2.2.2.2.2.2.2.2.2.2.2.2.2.2.2.2, te, tl, (K : Int)) ∧ m_X9_take code (B 0) (B 3) (B 1) (B 4) (B 9) (B 6) (B 7) (B 8) (B 11) (B 12) (B 18 0) (B 18 1) (B 13 0) (B 13 1) (B 13 2) (B 14) (B 15) n fm t (B 17) r.1 r.2.1 r.2.2.1 r.2.2.2 kp K kM kW kK ir im tb re ne rest ahead parts total pF pT pW pE fo f0 k0 = some (-1, 0, B 8, B 15, (n : Int), (fm : Int), B 17, kp, (K : Int), kM, kW, kK, w.1, w.2.1, w.2.2.1, w.2.2.2.1, w.2.2.2.2.1, w.2.2.2.2.2.1, w.2.2.2.2.2.2.1, w.2.2.2.2.2.2.2.1, w.2.2.2.2.2.2.2.2.1, w.2.2.2.2.2.2.2.2.2.1, w.2.2.2.2.2.2.2.2.2.2.1, w.2.2.2.2.2.2.2.2.2.2.2.1, w.2.2.2.2.2.2.2.2.2.2.2.2.1, w.2.2.2.2.2.2.2.2.2.2.2.2.2.1, w.2.2.2.2.2.2.2.2.2.2.2.2.2.2.1, w.2.2.2.2.2.2.2.2.2.2.2.2.2.2.2) ∧ CC B t n tails leads lk lp olen oE oC u.1 u.2.1 u.2.2.1 u.2.2.2.1 u.2.2.2.2.1 u.2.2.2.2.2.1 u.2.2.2.2.2.2.1 u.2.2.2.2.2.2.2.1 u.2.2.2.2.2.2.2.2.1 u.2.2.2.2.2.2.2.2.2.1 u.2.2.2.2.2.2.2.2.2.2.1 u.2.2.2.2.2.2.2.2.2.2.2.1 u.2.2.2.2.2.2.2.2.2.2.2.2.1 u.2.2.2.2.2.2.2.2.2.2.2.2.2.1 u.2.2.2.2.2.2.2.2.2.2.2.2.2.2.2.1 u.2.2.2.2.2.2.2.2.2.2.2.2.2.2.2.2.2.1 u.2.2.2.2.2.2.2.2.2.2.2.2.2.2.2.2.2.2.1 u.2.2.2.2.2.2.2.2.2.2.2.2.2.2.2.2.2.2.2.1 u.2.2.2.2.2.2.2.2.2.2.2.2.2.2.2.2.2.2.2.2 ∧ RC B t n w.1 w.2.1 w.2.2.1 w.2.2.2.1 w.2.2.2.2.1 w.2.2.2.2.2.1 w.2.2.2.2.2.2.1 w.2.2.2.2.2.2.2.1 w.2.2.2.2.2.2.2.2.1 w.2.2.2.2.2.2.2.2.2.1 w.2.2.2.2.2.2.2.2.2.2.1 w.2.2.2.2.2.2.2.2.2.2.2.1 w.2.2.2.2.2.2.2.2.2.2.2.2.1 cC) ∨
    (∃ (u : T21) (w : T16) (P : Nat) (E sc' te' tl' kM' kW' kK' : Nat → Int), m_X8_take kp (B 0) (B 1) (B 2) (B 3) (B 18 0) (B 4) (B 6) (B 7) (B 8) (B 18 1) (B 9) (B 11) (B 12) (B 13) (B 14) (B 15) sc lk lp fv heads rests rk rtot rlen bg en et co n t (B 17) (B 19) vals lr vc now nA next xA low high seeds lows te tl K = some ((P : Int), 0, lC E 1 (B 8) P, B 14, lP (B 6) E 1 (B 15) P, sc', 0, -1, u.1, u.2.1, u.2.2.1, 0, u.2.2.2.2.1, u.2.2.2.2.2.1, u.2.2.2.2.2.2.1, u.2.2.2.2.2.2.2.1, u.2.2.2.2.2.2.2.2.1, u.2.2.2.2.2.2.2.2.2.1, 0, fz (B 17) 0 36 0, fz (B 19) 0 36 0, u.2.2.2.2.2.2.2.2.2.2.1, u.2.2.2.2.2.2.2.2.2.2.2.1, 0, u.2.2.2.2.2.2.2.2.2.2.2.2.2.1, u.2.2.2.2.2.2.2.2.2.2.2.2.2.2.1, u.2.2.2.2.2.2.2.2.2.2.2.2.2.2.2.1, u.2.2.2.2.2.2.2.2.2.2.2.2.2.2.2.2.1, u.2.2.2.2.2.2.2.2.2.2.2.2.2.2.2.2.2.1, u.2.2.2.2.2.2.2.2.2.2.2.2.2.2.2.2.2.2.1, u.2.2.2.2.2.2.2.2.2.2.2.2.2.2.2.2.2.2.2.1, u.2.2.2.2.2.2.2.2.2.2.2.2.2.2.2.2.2.2.2.2, te', tl', ((K + 1 : Nat) : Int)) ∧ m_X9_take code (B 0) (B 3) (B 1) (B 4) (B 9) (B 6) (B 7) (B 8) (B 11) (B 12) (B 18 0) (B 18 1) (B 13 0) (B 13 1) (B 13 2) (B 14) (B 15) n fm t (B 17) r.1 r.2.1 r.2.2.1 r.2.2.2 kp K kM kW kK ir im tb re ne rest ahead parts total pF pT pW pE fo f0 k0 = some ((P : Int), 0, lC E 1 (B 8) P, lP (B 6) E 1 (B 15) P, 0, 0, fz (B 17) 0 36 0, 0, ((K + 1 : Nat) : Int), kM', kW', kK', 0, 0, w.2.2.1, w.2.2.2.1, w.2.2.2.2.1, w.2.2.2.2.2.1, w.2.2.2.2.2.2.1, w.2.2.2.2.2.2.2.1, w.2.2.2.2.2.2.2.2.1, w.2.2.2.2.2.2.2.2.2.1, w.2.2.2.2.2.2.2.2.2.2.1, w.2.2.2.2.2.2.2.2.2.2.2.1, w.2.2.2.2.2.2.2.2.2.2.2.2.1, w.2.2.2.2.2.2.2.2.2.2.2.2.2.1, w.2.2.2.2.2.2.2.2.2.2.2.2.2.2.1, w.2.2.2.2.2.2.2.2.2.2.2.2.2.2.2) ∧ CC B t n tails leads lk lp olen oE oC u.1 u.2.1 u.2.2.1 u.2.2.2.1 u.2.2.2.2.1 u.2.2.2.2.2.1 u.2.2.2.2.2.2.1 u.2.2.2.2.2.2.2.1 u.2.2.2.2.2.2.2.2.1 u.2.2.2.2.2.2.2.2.2.1 u.2.2.2.2.2.2.2.2.2.2.1 u.2.2.2.2.2.2.2.2.2.2.2.1 u.2.2.2.2.2.2.2.2.2.2.2.2.1 u.2.2.2.2.2.2.2.2.2.2.2.2.2.1 u.2.2.2.2.2.2.2.2.2.2.2.2.2.2.2.1 u.2.2.2.2.2.2.2.2.2.2.2.2.2.2.2.2.2.1 u.2.2.2.2.2.2.2.2.2.2.2.2.2.2.2.2.2.2.1 u.2.2.2.2.2.2.2.2.2.2.2.2.2.2.2.2.2.2.2.1 u.2.2.2.2.2.2.2.2.2.2.2.2.2.2.2.2.2.2.2.2 ∧ RC B t n w.1 w.2.1 w.2.2.1 w.2.2.2.1 w.2.2.2.2.1 w.2.2.2.2.2.1 w.2.2.2.2.2.2.1 w.2.2.2.2.2.2.2.1 w.2.2.2.2.2.2.2.2.1 w.2.2.2.2.2.2.2.2.2.1 w.2.2.2.2.2.2.2.2.2.2.1 w.2.2.2.2.2.2.2.2.2.2.2.1 w.2.2.2.2.2.2.2.2.2.2.2.2.1 cC ∧ P ≤ 36 ∧ SCx (B 14) (lP (B 6) E 1 (B 15) P) sc' ∧ TKN B (K + 1) te' tl' kM' kW' kK') := by
  obtain ⟨u, eu, hCU, hu3, hD⟩ := z_renew hG hS nA xA hC
  obtain ⟨w, ew, hRW, hw01, hE, hT⟩ := z_rread hG hS fo f0 k0 hR
  obtain ⟨P, g1, g2, g3, g4, g5, g6, g7, g8⟩ := rd_part hG.2.1 hD hE
  obtain ⟨u0, u1, u2, u3, u4, u5, u6, u7, u8, u9, u10, u11, u12, u13, u14, u15, u16, u17, u18, u19, u20⟩ := u
  obtain ⟨w0, w1, w2, w3, w4, w5, w6, w7, w8, w9, w10, w11, w12, w13, w14, w15⟩ := w
  have g1 : u5 = (P : Int) := g1
  have g2 : w7 = (P : Int) := g2
  have g4 : P = 0 ↔ n = 0 ∨ 134217728 ≤ w8 := g4
  have g7 : inI w8 := g7
  have g8 : ∀ i, i < P → ∃ a b e : Nat, u6 i = a ∧ u7 i = b ∧ u8 i = e ∧ w9 i = a ∧ w10 i = b ∧ (e : Int) = 9 * w11 i + w12 i + 1 ∧ e ≤ 540 ∧ (0 ≤ w11 i ∧ w11 i ≤ 60) ∧ (-1 ≤ w12 i ∧ w12 i < 8) ∧ (w11 i = 60 → w12 i = -1) ∧ PC B t n a b e (u9 i) := g8
  have hK40 := hTK.1
  obtain ⟨hB, hW, hGS, hsc, hbd⟩ := id hG
  obtain ⟨hn, ht, h36, hF, hFi⟩ := id hS
  by_cases hc : P ≠ 0 ∧ K < 40
  · right
    have hnn : n ≠ 0 ∧ ¬ 134217728 ≤ w8 := by
      constructor
      · intro z
        exact hc.1 (g4.mpr (Or.inl z))
      · intro z
        exact hc.1 (g4.mpr (Or.inr z))
    have hok : okE (B 6) (fun j => u8 (0 + j)) P := by
      intro j hj
      obtain ⟨a, b, e, c1, c2, c3, c4, c5, c6, c7, c8, c9, c10, hPC⟩ := g8 j hj
      show (0 ≤ u8 (0 + j) ∧ u8 (0 + j) ≤ 540) ∧ (0 ≤ kd (B 6) (u8 (0 + j)) ∧ kd (B 6) (u8 (0 + j)) ≤ 8)
      rw [Nat.zero_add, c3]
      exact ⟨by omega, kd_bd hW hPC.2.1⟩
    obtain ⟨⟨L1, L2, L3, L4⟩, eL, hL1, hL2, hL3, hL4⟩ := q_learn (K := B 6) (C := B 8) (p := B 14) (q := B 15) (sc := sc) (g0 := u8) (first := 0) (P := P) (gn := 36) (by' := 1) (M := 36 * (k : Int)) (by omega) (by omega) (fun i => (hbd i).2) g3 (by omega) (by omega) hok (SCx_o.mp hsc) (x2 := 0) (x3 := u5) rfl g1
    have hL1 : L1 = _ := hL1
    have hL2 : L2 = _ := hL2
    have hL3 : L3 = _ := hL3
    have hL4 : SCx (B 14) (lP (B 6) (fun j => u8 (0 + j)) 1 (B 15) P) L4 := hL4
    subst hL1 hL2 hL3
    obtain ⟨E, eE⟩ : ∃ E : Nat → Int, E = fun j => u8 (0 + j) := ⟨_, rfl⟩
    rw [← eE] at eL hL4 hok
    have hEj : ∀ j, E j = u8 j := fun j => by rw [eE]; show u8 (0 + j) = _; rw [Nat.zero_add]
    have ekeep : m_X7_keep u5 te tl K u8 36 = some (zcp u8 te 0 (36 * K) P, uz tl K P, ((K + 1 : Nat) : Int)) := by
      apply wp_out
      unfold m_X7_keep
      refine wp_gd (by omega) (wp_vl (wp_gd (by omega) (wp_vl (wp_vl (wp_some ?_)))))
      rw [show Int.toNat ((K : Int) * 36) = 36 * K by omega, show Int.toNat (K : Int) = K by omega, show u5.toNat = P by omega, g1]
      rfl
    have hkk : ∀ j, j < P → zcp (fun i => kd (B 6) (E i)) kK 0 (36 * K) P (36 * K + j) = kd (B 6) (E j) ∧ zcp w11 kW 0 (36 * K) P (36 * K + j) = E j / 9 := by
      intro j hj
      obtain ⟨a, b, e, c1, c2, c3, c4, c5, c6, c7, c8, c9, c10, hPC⟩ := g8 j hj
      rw [zcp_in _ _ (by omega), zcp_in _ _ (by omega), show 0 + (36 * K + j - 36 * K) = j by omega]
      refine ⟨rfl, ?_⟩
      rw [hEj, c3]
      omega
    have erl := q_rlearn (K := B 6) (C := B 8) (q := B 15) (kM := uz kM K w7) (kW := zcp w11 kW 0 (36 * K) P) (kK := zcp (fun i => kd (B 6) (E i)) kK 0 (36 * K) P) (E := E) (tt := K) (P := P) (by' := 1) g3 hc.2 hok (by rw [uz_at]; exact g2) hkk (x1 := (K : Int)) rfl
    refine ⟨(u0, u1, u2, u3, u4, u5, u6, u7, u8, u9, u10, u11, u12, u13, u14, u15, u16, u17, u18, u19, u20), (w0, w1, w2, w3, w4, w5, w6, w7, w8, w9, w10, w11, w12, w13, w14, w15), P, E, L4, zcp u8 te 0 (36 * K) P, uz tl K P, uz kM K w7, zcp w11 kW 0 (36 * K) P, zcp (fun i => kd (B 6) (E i)) kK 0 (36 * K) P, ?_, ?_, hCU, hRW, g3, hL4, ⟨by omega, fun i hi => ?_⟩⟩
    · apply wp_out
      unfold m_X8_take m_X4_clear
      refine wp_eq eu (wp_gd (by omega) (wp_if (fun c => absurd c (by omega)) (fun _ => wp_gd (by omega) (wp_if (fun _ => wp_eq ekeep (wp_eq eL ?_)) (fun c => absurd (by omega) c)))))
      rw [q_freeHand]
      refine wp_some ?_
      rw [g1]
    · apply wp_out
      unfold m_X9_take
      refine wp_eq ew (wp_gd (by omega) (wp_if (fun c => absurd c (by omega)) (fun _ => wp_gd g7 (wp_if (fun c => absurd c hnn.2) (fun _ => wp_gd (by omega) (wp_if (fun c => absurd c (by omega)) (fun _ => wp_gd (by omega) (wp_vl ?_))))))))
      rw [show Int.toNat (K : Int) = K by omega]
      refine wp_bind (P := fun y : Nat × Int × (Nat → Int) × (Nat → Int) => y.2.2 = (zcp w11 kW 0 (36 * K) P, zcp (fun i => kd (B 6) (E i)) kK 0 (36 * K) P)) (wp_loop (fun q y => y = ((q : Int), zcp w11 kW 0 (36 * K) q, zcp (fun i => kd (B 6) (E i)) kK 0 (36 * K) q)) P (by omega) (by rw [zcp_0, zcp_0]; rfl) ?_) ?_
      · intro q y hq hy
        subst hy
        show wp (m_X9_take_51 (q : Int) 0 (B 0) (B 3) (B 1) (B 4) (B 9) (B 6) (B 7) (B 8) (B 11) (B 12) (B 18 0) (B 18 1) (B 13 0) (B 13 1) (B 13 2) (B 14) (B 15) n fm t (B 17) r.1 r.2.1 r.2.2.1 r.2.2.2 kp K (uz kM K w7) (zcp w11 kW 0 (36 * K) q) (zcp (fun i => kd (B 6) (E i)) kK 0 (36 * K) q) w0 w1 w2 w3 w4 w5 w6 w7 w8 w9 w10 w11 w12 w13 w14 w15) _
        unfold m_X9_take_51
        refine wp_gd (by omega) (wp_gd (by omega) (wp_if (fun c => ?_) (fun c => ?_)))
        · have : q = P := by omega
          subst this
          exact wp_end (by decide) rfl
        · have hqP : q < P := by omega
          obtain ⟨a, b, e, c1, c2, c3, c4, c5, c6, c7, c8, c9, c10, hPC⟩ := g8 q hqP
          have ei : Int.toNat (36 * (K : Int) + (q : Int)) = 36 * K + q := by omega
          rw [ei, show Int.toNat (q : Int) = q by omega]
          refine wp_gd (by omega) (wp_gd (by omega) (wp_vl (wp_gd (by omega) (wp_eq (q_rkind c8 c9 c10) (wp_gd (by omega) (wp_vl (wp_vl (wp_go ⟨hqP, ?_⟩))))))))
          show ((q : Int) + 1, uz (zcp w11 kW 0 (36 * K) q) (36 * K + q) (w11 q), uz (zcp (fun i => kd (B 6) (E i)) kK 0 (36 * K) q) (36 * K + q) (kd (B 6) (9 * w11 q + w12 q + 1))) = _
          rw [zcp_step _ _ rfl (by rw [Nat.zero_add]), zcp_step _ _ rfl (by rw [Nat.zero_add, hEj, c3, c6])]
          rfl
      · rintro ⟨t51, x51, k51, l51⟩ hy
        have hy : (k51, l51) = _ := hy
        injection hy with y1 y2
        subst y1 y2
        refine wp_eq erl (wp_vl (wp_eq (q_rfree (h36 36 (by omega)) _) (wp_eq rfl (wp_some ?_))))
        rw [g2]
        rfl
    · by_cases hiK : i = K
      · subst hiK
        refine ⟨P, uz_at _ _ _, by rw [uz_at]; exact g2, g3, fun j hj => ?_⟩
        obtain ⟨a, b, e, c1, c2, c3, c4, c5, c6, c7, c8, c9, c10, hPC⟩ := g8 j hj
        obtain ⟨k1, k2⟩ := hkk j hj
        refine ⟨e, ?_, c7, hPC.2.1, ?_, ?_⟩
        · rw [zcp_in _ _ (by omega), show 0 + (36 * i + j - 36 * i) = j by omega]
          exact c3
        · rw [k1, hEj, c3]
        · rw [k2, hEj, c3]
          omega
      · obtain ⟨Q, q1, q2, q3, q4⟩ := hTK.2 i (by omega)
        refine ⟨Q, by rw [uz_ne _ _ hiK]; exact q1, by rw [uz_ne _ _ hiK]; exact q2, q3, fun j hj => ?_⟩
        rw [zcp_out _ _ (by omega), zcp_out _ _ (by omega), zcp_out _ _ (by omega)]
        exact q4 j hj
  · left
    refine ⟨(u0, u1, u2, u3, u4, u5, u6, u7, u8, u9, u10, u11, u12, u13, u14, u15, u16, u17, u18, u19, u20), (w0, w1, w2, w3, w4, w5, w6, w7, w8, w9, w10, w11, w12, w13, w14, w15), ?_, ?_, hCU, hRW⟩
    · apply wp_out
      unfold m_X8_take
      exact wp_eq eu (wp_gd (by omega) (wp_if (fun _ => wp_some rfl) (fun _ => wp_gd (by omega) (wp_if (fun c => absurd hc (by omega)) (fun _ => wp_some rfl)))))
    · apply wp_out
      unfold m_X9_take
      refine wp_eq ew (wp_gd (by omega) (wp_if (fun _ => wp_some rfl) (fun c1 => wp_gd g7 (wp_if (fun _ => wp_some rfl) (fun c2 => wp_gd (by omega) (wp_if (fun _ => wp_some rfl) (fun c3 => ?_)))))))
      exfalso
      have hP0 : P ≠ 0 := fun z => by
        rcases g4.mp z with z | z
        · exact c1 (by omega)
        · exact c2 z
      exact hc ⟨hP0, by omega⟩
set_option maxHeartbeats 1000000 in
theorem z_unlearn {k : Nat} {B : Nat → Nat → Int} {sc : Nat → Int} {K : Nat} (hk : k ≤ 600) (hG : GD k B sc) (lk lp rk vc code ir : Int) {te tl kM kW kK : Nat → Int} (hTK : TKN B K te tl kM kW kK) :
    (m_X8_unlearn (B 6) (B 8) (B 14) (B 15) sc lk lp rk vc te tl K = some (-1, B 8, B 14, B 15, sc, lk, lp, rk, vc, (K : Int)) ∧ m_X9_unlearn code (B 8) (B 15) K kM kW kK ir = some (-1, 0, B 8, B 15, (K : Int), ir)) ∨
    (∃ (P K' : Nat) (E sc' : Nat → Int), m_X8_unlearn (B 6) (B 8) (B 14) (B 15) sc lk lp rk vc te tl K = some ((K' : Int), lC E (-1) (B 8) P, B 14, lP (B 6) E (-1) (B 15) P, sc', 0, -1, 0, 0, (K' : Int)) ∧ m_X9_unlearn code (B 8) (B 15) K kM kW kK ir = some ((K' : Int), 0, lC E (-1) (B 8) P, lP (B 6) E (-1) (B 15) P, (K' : Int), 0) ∧ P ≤ 36 ∧ K' ≤ K ∧ SCx (B 14) (lP (B 6) E (-1) (B 15) P) sc') := by
  have hK40 := hTK.1
  obtain ⟨hB, hW, hGS, hsc, hbd⟩ := id hG
  cases K with
  | zero =>
    left
    refine ⟨?_, ?_⟩
    · apply wp_out
      unfold m_X8_unlearn
      exact wp_gd (by decide) (wp_if (fun _ => wp_some rfl) (fun c => absurd rfl c))
    · apply wp_out
      unfold m_X9_unlearn
      exact wp_gd (by decide) (wp_if (fun _ => wp_some rfl) (fun c => absurd rfl c))
  | succ K =>
    right
    obtain ⟨P, p1, p2, p3, p4⟩ := hTK.2 K (by omega)
    obtain ⟨E, eE⟩ : ∃ E : Nat → Int, E = fun j => te (36 * K + j) := ⟨_, rfl⟩
    have hok : okE (B 6) E P := by
      intro j hj
      obtain ⟨e, e1, e2, e3, e4, e5⟩ := p4 j hj
      rw [eE]
      show (0 ≤ te (36 * K + j) ∧ te (36 * K + j) ≤ 540) ∧ (0 ≤ kd (B 6) (te (36 * K + j)) ∧ kd (B 6) (te (36 * K + j)) ≤ 8)
      rw [e1]
      exact ⟨by omega, kd_bd hW e3⟩
    have hkk : ∀ j, j < P → kK (36 * K + j) = kd (B 6) (E j) ∧ kW (36 * K + j) = E j / 9 := by
      intro j hj
      obtain ⟨e, e1, e2, e3, e4, e5⟩ := p4 j hj
      rw [eE]
      show kK (36 * K + j) = kd (B 6) (te (36 * K + j)) ∧ kW (36 * K + j) = te (36 * K + j) / 9
      rw [e1]
      exact ⟨e4, by rw [e5]; omega⟩
    have eK : ((K + 1 : Nat) : Int) - 1 = (K : Int) := by omega
    rw [eE] at hok
    obtain ⟨⟨L1, L2, L3, L4⟩, eL, hL1, hL2, hL3, hL4⟩ := q_learn (K := B 6) (C := B 8) (p := B 14) (q := B 15) (sc := sc) (g0 := te) (first := 36 * K) (P := P) (gn := 1440) (by' := -1) (M := 36 * (k : Int)) (by omega) (by omega) (fun i => (hbd i).2) p3 (by omega) (by omega) hok (SCx_o.mp hsc) (x2 := (K : Int) * 36) (x3 := tl K) (by omega) p1
    have hL1 : L1 = _ := hL1
    have hL2 : L2 = _ := hL2
    have hL3 : L3 = _ := hL3
    have hL4 : SCx (B 14) (lP (B 6) (fun j => te (36 * K + j)) (-1) (B 15) P) L4 := hL4
    subst hL1 hL2 hL3
    rw [← eE] at eL hL4 hok
    have erl := q_rlearn (K := B 6) (C := B 8) (q := B 15) (kM := kM) (kW := kW) (kK := kK) (E := E) (tt := K) (P := P) (by' := -1) p3 (by omega) hok p2 hkk (x1 := (K : Int)) rfl
    refine ⟨P, K, E, L4, ?_, ?_, p3, by omega, hL4⟩
    · apply wp_out
      unfold m_X8_unlearn
      refine wp_gd (by omega) (wp_if (fun c => absurd c (by omega)) (fun _ => wp_vl ?_))
      rw [eK, show Int.toNat (K : Int) = K by omega]
      exact wp_gd (by omega) (wp_eq eL (wp_eq rfl (wp_some rfl)))
    · apply wp_out
      unfold m_X9_unlearn
      refine wp_gd (by omega) (wp_if (fun c => absurd c (by omega)) (fun _ => wp_vl ?_))
      rw [eK]
      exact wp_eq erl (wp_some rfl)
