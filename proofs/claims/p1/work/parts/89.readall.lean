/-! the reference's read, from any state -/
set_option maxHeartbeats 2000000 in
theorem q_read {B : Nat → Nat → Int} {t : Nat → Int} (hB : GB B) (hW : GW B) (hS : GS B) (ht : ∀ k, inI (t k)) {n fm : Nat} (hn : n ≤ 36) {fF fT fW fE tb re ne rest ahead pF pT pW pE : Nat → Int} (hF : FX B n fm fF fT fW fE) (hFi : ∀ i, inI (fF i) ∧ inI (fT i) ∧ inI (fW i) ∧ inI (fE i)) (hTb : ∀ i, inI (tb i)) (hre : ∀ i, inI (re i)) (hne : ∀ i, inI (ne i)) (hrs : ∀ i, inI (rest i)) (hah : ∀ i, inI (ahead i)) {sl gu ba nn mm isRd isM parts total found f0 k0 : Int} (esl : sl = B 13 0) (eg : gu = B 13 1) (eb : ba = B 13 2) (en : nn = n) (em : mm = fm) (hM : isM = 0 ∨ (isM = 1 ∧ TBL B t n (540 * n) tb)) (hRd : isRd = 0 ∨ (isRd = 1 ∧ isM = 1 ∧ RDR B t n rest ahead parts total pF pT pW pE)) :
    wp (m_X9_read (B 0) (B 3) (B 1) (B 4) (B 9) (B 6) (B 7) (B 8) (B 11) (B 12) (B 18 0) (B 18 1) sl gu ba (B 14) (B 15) nn mm t (B 17) fF fT fW fE isRd isM tb re ne rest ahead parts total pF pT pW pE found f0 k0) (fun u => u.1 = 1 ∧ u.2.1 = 1 ∧ TBL B t n (540 * n) u.2.2.1 ∧ (∀ i, inI (u.2.2.2.1 i)) ∧ (∀ i, inI (u.2.2.2.2.1 i)) ∧ RDR B t n u.2.2.2.2.2.1 u.2.2.2.2.2.2.1 u.2.2.2.2.2.2.2.1 u.2.2.2.2.2.2.2.2.1 u.2.2.2.2.2.2.2.2.2.1 u.2.2.2.2.2.2.2.2.2.2.1 u.2.2.2.2.2.2.2.2.2.2.2.1 u.2.2.2.2.2.2.2.2.2.2.2.2.1) := by
  unfold m_X9_read
  refine wp_gd (by omega) (wp_if (fun c1 => ?_) (fun c1 => ?_))
  · refine wp_gd (by omega) (wp_if (fun c2 => ?_) (fun c2 => ?_))
    · refine wp_bind (q_makeTable hB hW ht hn hTb hre hne en esl) ?_
      rintro ⟨tb2, re2, ne2⟩ ⟨g1, g2, g3⟩
      have g1 : TBL B t n (540 * n) tb2 := g1
      refine wp_mono (q_read24 hB hW hS hn (re := re2) (ne := ne2) g1 hF hFi hrs hah eg eb en em pF) ?_
      rintro u ⟨u1, u2, u3, u4, u5, u6⟩
      exact ⟨u1, u2, by rw [u3]; exact g1, by rw [u4]; exact g2, by rw [u5]; exact g3, u6⟩
    · have hT : TBL B t n (540 * n) tb := by
        rcases hM with z | ⟨_, z⟩
        · exact absurd z c2
        · exact z
      refine wp_mono (q_read24 hB hW hS hn (re := re) (ne := ne) hT hF hFi hrs hah eg eb en em pF) ?_
      rintro u ⟨u1, u2, u3, u4, u5, u6⟩
      exact ⟨u1, u2, by rw [u3]; exact hT, by rw [u4]; exact hre, by rw [u5]; exact hne, u6⟩
  · rcases hRd with z | ⟨z1, z2, z3⟩
    · exact absurd z c1
    · have hT : TBL B t n (540 * n) tb := by
        rcases hM with z | ⟨_, z⟩
        · omega
        · exact z
      exact wp_some ⟨z1, z2, hT, hre, hne, z3⟩
/-- the answers of cost and parts are one -/
theorem read_agree {B : Nat → Nat → Int} {t : Nat → Int} (hW : GW B) {n : Nat} {fv rests bg en et co vals rest ahead pF pT pW pE : Nat → Int} {total len parts tot2 : Int} (h1 : RDC B t n fv rests total len bg en et co vals) (h2 : RDR B t n rest ahead parts tot2 pF pT pW pE) : len = parts ∧ ((268435456 ≤ total ∧ 134217728 ≤ tot2) ∨ (total = tot2 ∧ total < 268435456 ∧ tot2 < 134217728)) ∧ ∀ i : Nat, (i : Int) < len → bg i = pF i ∧ en i = pT i ∧ et i = pent pW pE i := by
  obtain ⟨P, p1, p2, p3, p4⟩ := h1
  obtain ⟨Q, q1, q2, q3, q4, q5, q6, q7⟩ := h2
  rcases Nat.eq_zero_or_pos n with h0 | h0
  · obtain ⟨r1, r2⟩ := p3 h0
    have hQ : Q = 0 := by
      have := q5.1
      omega
    have hz := q3.1 9 (by omega)
    rw [h0] at hz
    have hz : rest 9 = 0 := hz
    refine ⟨by omega, Or.inr ⟨by omega, by omega, by omega⟩, fun i hi => by omega⟩
  · obtain ⟨f1, f2, f3, f4, f5, f6⟩ := p4 h0
    have hR2 : Rel2 n (Rc rests) (Rr rest) 268435456 134217728 := fun b k g1 g2 => rests_agree hW f3 q3 (n - b) b (by omega) k g2
    have ht : (total = 268435456 ∧ tot2 = 134217728) ∨ (total = tot2 ∧ total < 268435456 ∧ tot2 < 134217728) := by
      have l2 := q3.2.2 0 (Nat.zero_le _) h0 9 (by omega)
      have l3 : Lst (fun x => ∃ e b, viaG B t n 0 (Rc rests) 268435456 9 e b x) 134217728 tot2 := by
        rw [q4]
        refine l2.iff (fun x => ?_)
        constructor
        · rintro ⟨e, b, h⟩
          exact ⟨e, b, (viaG_congr (R' := Rr rest) (far' := 134217728) hW (fun b k _ g2 g3 => hR2 b k g2 g3)).mp h⟩
        · rintro ⟨e, b, h⟩
          exact ⟨e, b, (viaG_congr (R' := Rr rest) (far' := 134217728) hW (fun b k _ g2 g3 => hR2 b k g2 g3)).mpr h⟩
      rcases f4.two l3 with h | ⟨g1, g2, g3, _⟩
      · exact Or.inl h
      · exact Or.inr ⟨g1, g2, g3⟩
    obtain ⟨g1, g2⟩ := CHN_one hW hR2 ht f5 q5
    refine ⟨by omega, ?_, fun i hi => g2 i (by omega)⟩
    rcases ht with ⟨z1, z2⟩ | z
    · exact Or.inl ⟨by omega, by omega⟩
    · exact Or.inr z
