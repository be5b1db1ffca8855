/-! the signs of the reading, on both sides -/
/-- how many signs an entry has -/
def sgn (B : Nat → Nat → Int) (e : Int) : Nat := if e = 540 then 1 else siz 14 (B 5 (e / 9).toNat) + (if e % 9 = 0 then 0 else 1)
/-- an entry's m-th sign -/
def SG (B : Nat → Nat → Int) (e m letter : Int) : Int := if e = 540 then 20000 + letter else if e % 9 ≠ 0 ∧ m = (sgn B e : Int) - 1 then B 10 (e % 9 - 1).toNat else pz 14 (B 5 (e / 9).toNat) m.toNat
def cum (B : Nat → Nat → Int) (E : Nat → Int) : Nat → Nat
  | 0 => 0
  | i + 1 => cum B E i + sgn B (E i)
theorem cum_mono {B : Nat → Nat → Int} {E : Nat → Int} {i j : Nat} (h : i ≤ j) : cum B E i ≤ cum B E j := by
  induction h with
  | refl => exact Nat.le_refl _
  | step _ ih => exact Nat.le_trans ih (Nat.le_add_right _ _)
theorem cum_one {B : Nat → Nat → Int} {E : Nat → Int} {i j : Nat} {x : Int} (h1 : (cum B E i : Int) ≤ x ∧ x < (cum B E (i + 1) : Int)) (h2 : (cum B E j : Int) ≤ x ∧ x < (cum B E (j + 1) : Int)) : i = j := by
  by_cases hij : i + 1 ≤ j
  · have := cum_mono (B := B) (E := E) hij
    omega
  · by_cases hji : j + 1 ≤ i
    · have := cum_mono (B := B) (E := E) hji
      omega
    · omega
theorem sg_word {B : Nat → Nat → Int} (hW : GW B) {e : Int} (he : EV B e) (hn : e ≠ 540) : ∃ s : Nat, isR 14 4 16383 (B 5 (e / 9).toNat) s ∧ siz 14 (B 5 (e / 9).toNat) = s ∧ (1 ≤ s ∧ s ≤ 4) ∧ sgn B e = s + (if e % 9 = 0 then 0 else 1) ∧ (0 ≤ e ∧ e < 540) ∧ (0 ≤ e / 9 ∧ e / 9 < 60) := by
  rcases he with he | ⟨e0, e1, e2, e3⟩
  · exact absurd he hn
  · obtain ⟨_, ⟨s, hs⟩, _⟩ := hW.2.2.1 (e / 9).toNat (by omega)
    have hz := siz_of (by decide) hs
    refine ⟨s, hs, hz, ⟨hs.1, hs.2.1⟩, ?_, ⟨e0, e1⟩, by omega⟩
    unfold sgn
    rw [if_neg hn, hz]
theorem sgn_bd {B : Nat → Nat → Int} (hW : GW B) {e : Int} (he : EV B e) : 1 ≤ sgn B e ∧ sgn B e ≤ 5 := by
  by_cases hn : e = 540
  · unfold sgn
    rw [if_pos hn]
    omega
  · obtain ⟨s, _, _, h1, h2, _⟩ := sg_word hW he hn
    rw [h2]
    by_cases h9 : e % 9 = 0
    · rw [if_pos h9]
      omega
    · rw [if_neg h9]
      omega
theorem q_signsOf {B : Nat → Nat → Int} (hW : GW B) {e : Int} (he : EV B e) (hb : 0 ≤ e ∧ e ≤ 540) : m_X1_signsOf e (B 5) = some (sgn B e : Int) := by
  apply wp_out
  unfold m_X1_signsOf
  by_cases hn : e = 540
  · refine wp_gd (by omega) (wp_if (fun _ => wp_some ?_) (fun c => absurd hn c))
    unfold sgn
    rw [if_pos hn]
    rfl
  · obtain ⟨s, hs, hz, h1, h2, h3, h4⟩ := sg_word hW he hn
    obtain ⟨v, ev, hv⟩ := q_rowLength (r := B 5 (e / 9).toNat) (x2 := 14) (x3 := 16383) (x4 := 4) 14 4 (by omega) rfl rfl (by omega) (hW.2.2.2.2 _).2.1
    have hvs : v = (s : Int) := by
      rcases hv with ⟨_, hv⟩ | ⟨m, hv, hm⟩
      · exact absurd hs (hv s)
      · rw [hv, isR_uniq hm hs]
    refine wp_gd (by omega) (wp_if (fun c => absurd c hn) (fun _ => wp_eq (q_wordOf h3) (wp_gd (by omega) (wp_eq ev (wp_eq (q_endingOf h3) (wp_gd (by omega) (wp_if (fun c => ?_) (fun c => ?_))))))))
    · refine wp_some ?_
      rw [h2, if_pos (by omega), hvs]
      rfl
    · refine wp_some ?_
      rw [h2, if_neg (by omega), hvs]
      rfl
theorem q_signAt {B : Nat → Nat → Int} (hW : GW B) {e : Int} (he : EV B e) (hb : 0 ≤ e ∧ e ≤ 540) {m letter : Int} (hm : 0 ≤ m ∧ m < (sgn B e : Int)) : m_X1_signAt e m letter (B 5) (B 10) = some (SG B e m letter) := by
  apply wp_out
  unfold m_X1_signAt
  by_cases hn : e = 540
  · refine wp_gd (by omega) (wp_if (fun _ => wp_some ?_) (fun c => absurd hn c))
    unfold SG
    rw [if_pos hn]
  · obtain ⟨s, hs, hz, h1, h2, h3, h4⟩ := sg_word hW he hn
    have hsb := sgn_bd hW he
    have h44 : m < (s : Int) → m_X1_signAt_44 e m (B 5) (B 10) = some (pz 14 (B 5 (e / 9).toNat) m.toNat) := by
      intro hms
      apply wp_out
      unfold m_X1_signAt_44
      refine wp_eq (q_wordOf h3) (wp_gd (by omega) (wp_gd (hW.2.2.2.2 _).2.1 (wp_gd (by omega) (wp_some ?_))))
      unfold pz
      rw [show (m * 14).toNat = 14 * m.toNat by omega]
      rfl
    refine wp_gd (by omega) (wp_if (fun c => absurd c hn) (fun _ => wp_eq (q_endingOf h3) (wp_gd (by omega) (wp_if (fun c => ?_) (fun c => ?_)))))
    · have h9 : e % 9 = 0 := by omega
      rw [if_pos h9] at h2
      rw [h44 (by omega)]
      refine wp_some ?_
      unfold SG
      rw [if_neg hn, if_neg (fun z => z.1 h9)]
    · have h9 : e % 9 ≠ 0 := by omega
      rw [if_neg h9] at h2
      refine wp_eq (q_signsOf hW he hb) (wp_gd (by omega) (wp_gd (by omega) (wp_if (fun c2 => ?_) (fun c2 => ?_))))
      · refine wp_gd (by omega) (wp_some ?_)
        unfold SG
        rw [if_neg hn, if_pos ⟨h9, c2⟩]
      · rw [h44 (by omega)]
        refine wp_some ?_
        unfold SG
        rw [if_neg hn, if_neg (fun z => c2 z.2)]
theorem SG_bd {B : Nat → Nat → Int} (hB : GB B) {e m letter : Int} (hl : inT letter) : inI (SG B e m letter) := by
  unfold SG
  by_cases hn : e = 540
  · rw [if_pos hn]
    omega
  · rw [if_neg hn]
    by_cases hc : e % 9 ≠ 0 ∧ m = (sgn B e : Int) - 1
    · rw [if_pos hc]
      exact hB.1 10 _ (by decide) (by decide) (by decide)
    · rw [if_neg hc]
      have h1 := pz_nonneg 14 (B 5 (e / 9).toNat) m.toNat
      have h2 := pz_lt 14 (B 5 (e / 9).toNat) m.toNat
      have h3 : (2 : Int) ^ 14 = 16384 := by decide
      omega
set_option maxHeartbeats 2000000 in
theorem z_sign {k : Nat} {B : Nat → Nat → Int} {sc t : Nat → Int} {n fm : Nat} {r : r4} (hG : GD k B sc) (hS : SHT B t n fm r.1 r.2.1 r.2.2.1 r.2.2.2) {tails leads : Nat → Int} {lk lp olen : Int} {oE oC fv heads rests : Nat → Int} {rk rtot rlen : Int} {bg en et co vals lr : Nat → Int} {vc : Int} {now next : Nat → Int} {low high : Int} {seeds lows : Nat → Int} (nA xA : Nat) (hC : CC B t n tails leads lk lp olen oE oC fv heads rests rk rtot rlen bg en et co vals lr vc now next low high seeds lows) {ir im : Int} {tb re ne rest ahead : Nat → Int} {parts total : Int} {pF pT pW pE : Nat → Int} {cC : Nat → Int} (code fo f0 k0 : Int) (hR : RC B t n ir im tb re ne rest ahead parts total pF pT pW pE cC) {x1 : Int} (h1 : inI x1) :
    ∃ (u : T21) (w : T16) (cd rv rv' : Int), ANS cd rv rv' ∧ m_X8_sign x1 (B 0) (B 1) (B 2) (B 3) (B 18 0) (B 4) (B 5) (B 6) (B 7) (B 8) (B 18 1) (B 9) (B 10) (B 11) (B 12) (B 13) sc fv heads rests rk rtot rlen bg en et co n t (B 17) (B 19) vals lr vc now nA next xA low high seeds lows = some (cd, rv, u) ∧ m_X9_sign x1 code (B 0) (B 3) (B 1) (B 4) (B 5) (B 9) (B 6) (B 7) (B 8) (B 10) (B 11) (B 12) (B 18 0) (B 18 1) (B 13 0) (B 13 1) (B 13 2) (B 14) (B 15) n fm t (B 17) r.1 r.2.1 r.2.2.1 r.2.2.2 ir im tb re ne rest ahead parts total pF pT pW pE fo f0 k0 = some (rv', cd, w) ∧ CC B t n tails leads lk lp olen oE oC u.1 u.2.1 u.2.2.1 u.2.2.2.1 u.2.2.2.2.1 u.2.2.2.2.2.1 u.2.2.2.2.2.2.1 u.2.2.2.2.2.2.2.1 u.2.2.2.2.2.2.2.2.1 u.2.2.2.2.2.2.2.2.2.1 u.2.2.2.2.2.2.2.2.2.2.1 u.2.2.2.2.2.2.2.2.2.2.2.1 u.2.2.2.2.2.2.2.2.2.2.2.2.1 u.2.2.2.2.2.2.2.2.2.2.2.2.2.1 u.2.2.2.2.2.2.2.2.2.2.2.2.2.2.2.1 u.2.2.2.2.2.2.2.2.2.2.2.2.2.2.2.2.2.1 u.2.2.2.2.2.2.2.2.2.2.2.2.2.2.2.2.2.2.1 u.2.2.2.2.2.2.2.2.2.2.2.2.2.2.2.2.2.2.2.1 u.2.2.2.2.2.2.2.2.2.2.2.2.2.2.2.2.2.2.2.2 ∧ RC B t n w.1 w.2.1 w.2.2.1 w.2.2.2.1 w.2.2.2.2.1 w.2.2.2.2.2.1 w.2.2.2.2.2.2.1 w.2.2.2.2.2.2.2.1 w.2.2.2.2.2.2.2.2.1 w.2.2.2.2.2.2.2.2.2.1 w.2.2.2.2.2.2.2.2.2.2.1 w.2.2.2.2.2.2.2.2.2.2.2.1 w.2.2.2.2.2.2.2.2.2.2.2.2.1 cC := by
  obtain ⟨u, eu, hCU, -, hD⟩ := z_renew hG hS nA xA hC
  obtain ⟨w, ew, hRW, -, hE, hT⟩ := z_rread hG hS fo f0 k0 hR
  obtain ⟨P, g1, g2, g3, g4, g5, g6, g7, g8⟩ := rd_part hG.2.1 hD hE
  obtain ⟨u0, u1, u2, u3, u4, u5, u6, u7, u8, u9, u10, u11, u12, u13, u14, u15, u16, u17, u18, u19, u20⟩ := u
  obtain ⟨w0, w1, w2, w3, w4, w5, w6, w7, w8, w9, w10, w11, w12, w13, w14, w15⟩ := w
  have g1 : u5 = (P : Int) := g1
  have g2 : w7 = (P : Int) := g2
  have g8 : ∀ i, i < P → ∃ a b e : Nat, u6 i = a ∧ u7 i = b ∧ u8 i = e ∧ w9 i = a ∧ w10 i = b ∧ (e : Int) = 9 * w11 i + w12 i + 1 ∧ e ≤ 540 ∧ (0 ≤ w11 i ∧ w11 i ≤ 60) ∧ (-1 ≤ w12 i ∧ w12 i < 8) ∧ (w11 i = 60 → w12 i = -1) ∧ PC B t n a b e (u9 i) := g8
  obtain ⟨hB, hW, hGS, hsc, -⟩ := hG
  obtain ⟨hn, ht, h36, hF, hFi⟩ := hS
  have hent : ∀ i, i < P → EV B (u8 i) ∧ (0 ≤ u8 i ∧ u8 i ≤ 540) := by
    intro i hi
    obtain ⟨a, b, e, c1, c2, c3, c4, c5, c6, c7, c8, c9, c10, hPC⟩ := g8 i hi
    rw [c3]
    exact ⟨hPC.2.1, by omega⟩
  have hcb : ∀ i, i ≤ P → cum B u8 i ≤ 5 * i := by
    intro i
    induction i with
    | zero =>
      intro _
      exact Nat.le_refl _
    | succ i ih =>
      intro hi
      have h1 := ih (by omega)
      have h2 := sgn_bd hW (hent i (by omega)).1
      show cum B u8 i + sgn B (u8 i) ≤ _
      omega
  have hcl : wp (m_X8_sign x1 (B 0) (B 1) (B 2) (B 3) (B 18 0) (B 4) (B 5) (B 6) (B 7) (B 8) (B 18 1) (B 9) (B 10) (B 11) (B 12) (B 13) sc fv heads rests rk rtot rlen bg en et co n t (B 17) (B 19) vals lr vc now nA next xA low high seeds lows) (fun v : Int × Int × T21 => v.2.2 = (u0, u1, u2, u3, u4, u5, u6, u7, u8, u9, u10, u11, u12, u13, u14, u15, u16, u17, u18, u19, u20) ∧ ((¬ (0 ≤ x1 ∧ x1 < (cum B u8 P : Int)) ∧ ((x1 = -1 ∧ v.1 = 0 ∧ v.2.1 = (cum B u8 P : Int)) ∨ (x1 ≠ -1 ∧ v.1 = 1))) ∨ (∃ i, i < P ∧ ((cum B u8 i : Int) ≤ x1 ∧ x1 < (cum B u8 (i + 1) : Int)) ∧ v.1 = 0 ∧ v.2.1 = SG B (u8 i) (x1 - (cum B u8 i : Int)) (t (u6 i).toNat)))) := by
    unfold m_X8_sign
    refine wp_eq eu ?_
    refine wp_bind (P := fun v : Nat × Int × Int => (v.1 = 1 ∧ v.2.1 = (cum B u8 P : Int) ∧ ¬ (0 ≤ x1 ∧ x1 < (cum B u8 P : Int))) ∨ (v.1 ≠ 1 ∧ ∃ i, i < P ∧ v.2.1 = (cum B u8 i : Int) ∧ v.2.2 = (i : Int) ∧ ((cum B u8 i : Int) ≤ x1 ∧ x1 < (cum B u8 (i + 1) : Int)))) (wp_loop (fun j y => y.1 = (cum B u8 j : Int) ∧ y.2 = (j : Int) ∧ ¬ (0 ≤ x1 ∧ x1 < (cum B u8 j : Int))) P (by omega) ⟨rfl, rfl, by show ¬ (0 ≤ x1 ∧ x1 < ((0 : Nat) : Int)); omega⟩ ?_) ?_
    · intro j y hj hs
      obtain ⟨y1, y2⟩ := y
      obtain ⟨s1, s2, s3⟩ := hs
      have s1 : y1 = (cum B u8 j : Int) := s1
      have s2 : y2 = (j : Int) := s2
      have hcj := hcb j hj
      show wp (m_X8_sign_11 x1 y1 y2 (B 0) (B 1) (B 2) (B 3) (B 18 0) (B 4) (B 5) (B 6) (B 7) (B 8) (B 18 1) (B 9) (B 10) (B 11) (B 12) (B 13) sc u0 u1 u2 u3 u4 u5 u6 u7 u8 u9 n t (B 17) (B 19) u10 u11 u12 u13 u14 u15 u16 u17 u18 u19 u20) _
      unfold m_X8_sign_11
      refine wp_gd (by omega) (wp_gd (by omega) (wp_if (fun c1 => ?_) (fun c1 => ?_)))
      · have : j = P := by omega
        subst this
        exact wp_end (by decide) (Or.inl ⟨rfl, s1, s3⟩)
      · have hjP : j < P := by omega
        obtain ⟨hev, heb⟩ := hent j hjP
        have hsb := sgn_bd hW hev
        have ec : cum B u8 (j + 1) = cum B u8 j + sgn B (u8 j) := rfl
        rw [show y2.toNat = j by omega]
        have h90 : ¬ (0 ≤ x1 ∧ x1 < (cum B u8 (j + 1) : Int)) → wp (m_X8_sign_90 x1 y1 y2 (sgn B (u8 j) : Int) (B 0) (B 1) (B 2) (B 3) (B 18 0) (B 4) (B 5) (B 6) (B 7) (B 8) (B 18 1) (B 9) (B 10) (B 11) (B 12) (B 13) sc u0 u1 u2 u3 u4 u5 u6 u7 u8 u9 n t (B 17) (B 19) u10 u11 u12 u13 u14 u15 u16 u17 u18 u19 u20) (fun u : Nat × Int × Int => (u.1 = 0 → j < P ∧ u.2.1 = (cum B u8 (j + 1) : Int) ∧ u.2.2 = ((j + 1 : Nat) : Int) ∧ ¬ (0 ≤ x1 ∧ x1 < (cum B u8 (j + 1) : Int))) ∧ (u.1 ≠ 0 → (u.1 = 1 ∧ u.2.1 = (cum B u8 P : Int) ∧ ¬ (0 ≤ x1 ∧ x1 < (cum B u8 P : Int))) ∨ (u.1 ≠ 1 ∧ ∃ i, i < P ∧ u.2.1 = (cum B u8 i : Int) ∧ u.2.2 = (i : Int) ∧ ((cum B u8 i : Int) ≤ x1 ∧ x1 < (cum B u8 (i + 1) : Int))))) := by
          intro hno
          unfold m_X8_sign_90
          refine wp_vl (wp_vl (wp_go ⟨hjP, ?_, ?_, hno⟩))
          · show y1 + _ = _
            omega
          · show y2 + 1 = _
            omega
        refine wp_gd (by omega) (wp_eq (q_signsOf hW hev heb) (wp_gd h1 (wp_gd (by omega) (wp_if (fun c2 => ?_) (fun c2 => ?_)))))
        · exact h90 (by omega)
        · refine wp_gd (by omega) (wp_if (fun c3 => ?_) (fun c3 => ?_))
          · exact h90 (by omega)
          · exact wp_end (by decide) (Or.inr ⟨by show (2 : Nat) ≠ 1; decide, j, hjP, s1, s2, by omega⟩)
    · rintro ⟨t11, x2, x3⟩ hv
      have hv : (t11 = 1 ∧ x2 = (cum B u8 P : Int) ∧ ¬ (0 ≤ x1 ∧ x1 < (cum B u8 P : Int))) ∨ (t11 ≠ 1 ∧ ∃ i, i < P ∧ x2 = (cum B u8 i : Int) ∧ x3 = (i : Int) ∧ ((cum B u8 i : Int) ≤ x1 ∧ x1 < (cum B u8 (i + 1) : Int))) := hv
      rcases hv with ⟨v1, v2, v3⟩ | ⟨v1, i, hi, v2, v3, v4⟩
      · subst v1
        show wp (if (1 : Nat) = 1 then _ else _) _
        rw [if_pos rfl]
        refine wp_gd h1 (wp_if (fun c => ?_) (fun c => ?_))
        · exact wp_some ⟨rfl, Or.inl ⟨v3, Or.inl ⟨c, rfl, v2⟩⟩⟩
        · exact wp_some ⟨rfl, Or.inl ⟨v3, Or.inr ⟨c, rfl⟩⟩⟩
      · show wp (if t11 = 1 then _ else _) _
        rw [if_neg v1]
        obtain ⟨a, b, e, c1, c2, c3, c4, c5, c6, c7, c8, c9, c10, hPC⟩ := g8 i hi
        obtain ⟨hev, heb⟩ := hent i hi
        have ec : cum B u8 (i + 1) = cum B u8 i + sgn B (u8 i) := rfl
        have hab := hPC.1
        rw [show x3.toNat = i by omega]
        refine wp_gd (by omega) (wp_gd (by omega) (wp_gd (by rw [c1]; omega) (wp_eq (q_signAt hW hev heb (by omega)) (wp_some ⟨rfl, Or.inr ⟨i, hi, v4, rfl, ?_⟩⟩))))
        rw [v2]
  have hrf : wp (m_X9_sign x1 code (B 0) (B 3) (B 1) (B 4) (B 5) (B 9) (B 6) (B 7) (B 8) (B 10) (B 11) (B 12) (B 18 0) (B 18 1) (B 13 0) (B 13 1) (B 13 2) (B 14) (B 15) n fm t (B 17) r.1 r.2.1 r.2.2.1 r.2.2.2 ir im tb re ne rest ahead parts total pF pT pW pE fo f0 k0) (fun v : Int × Int × T16 => v.2.2 = (w0, w1, w2, w3, w4, w5, w6, w7, w8, w9, w10, w11, w12, w13, w14, w15) ∧ ((¬ (0 ≤ x1 ∧ x1 < (cum B u8 P : Int)) ∧ ((x1 = -1 ∧ v.2.1 = 0 ∧ v.1 = (cum B u8 P : Int)) ∨ (x1 ≠ -1 ∧ v.2.1 = 1))) ∨ (∃ i, i < P ∧ ((cum B u8 i : Int) ≤ x1 ∧ x1 < (cum B u8 (i + 1) : Int)) ∧ v.2.1 = 0 ∧ v.1 = SG B (u8 i) (x1 - (cum B u8 i : Int)) (t (u6 i).toNat)))) := by
    unfold m_X9_sign
    refine wp_eq ew ?_
    refine wp_bind (P := fun v : Nat × Int × Int × Int × Int => (v.1 = 1 ∧ v.2.1 = (cum B u8 P : Int) ∧ ¬ (0 ≤ x1 ∧ x1 < (cum B u8 P : Int))) ∨ (v.1 = 2 ∧ ∃ i j s : Nat, i < P ∧ v.2.2.1 = (i : Int) ∧ v.2.2.2.1 = w11 i ∧ v.2.2.2.2 = (j : Int) ∧ j < s ∧ (u8 i ≠ 540 → siz 14 (B 5 (u8 i / 9).toNat) = s) ∧ s ≤ sgn B (u8 i) ∧ x1 = (cum B u8 i : Int) + j) ∨ (v.1 = 3 ∧ ∃ i s : Nat, i < P ∧ v.2.2.1 = (i : Int) ∧ w12 i ≠ -1 ∧ sgn B (u8 i) = s + 1 ∧ x1 = (cum B u8 i : Int) + s)) (wp_loop (fun j y => y.1 = (cum B u8 j : Int) ∧ y.2.1 = (j : Int) ∧ ¬ (0 ≤ x1 ∧ x1 < (cum B u8 j : Int))) P (by omega) ⟨rfl, rfl, by show ¬ (0 ≤ x1 ∧ x1 < ((0 : Nat) : Int)); omega⟩ ?_) ?_
    · intro j y hj hs
      obtain ⟨y1, y2, y3, y4⟩ := y
      obtain ⟨s1, s2, s3⟩ := hs
      have s1 : y1 = (cum B u8 j : Int) := s1
      have s2 : y2 = (j : Int) := s2
      have hcj := hcb j hj
      show wp (m_X9_sign_13 y3 y4 x1 y1 y2 0 (B 0) (B 3) (B 1) (B 4) (B 5) (B 9) (B 6) (B 7) (B 8) (B 10) (B 11) (B 12) (B 18 0) (B 18 1) (B 13 0) (B 13 1) (B 13 2) (B 14) (B 15) n fm t (B 17) r.1 r.2.1 r.2.2.1 r.2.2.2 w0 w1 w2 w3 w4 w5 w6 w7 w8 w9 w10 w11 w12 w13 w14 w15) _
      unfold m_X9_sign_13
      refine wp_gd (by omega) (wp_gd (by omega) (wp_if (fun c1 => ?_) (fun c1 => ?_)))
      · have : j = P := by omega
        subst this
        exact wp_end (by decide) (Or.inl ⟨rfl, s1, s3⟩)
      · have hjP : j < P := by omega
        obtain ⟨a, b, e, c1', c2, c3, c4, c5, c6, c7, c8, c9, c10, hPC⟩ := g8 j hjP
        obtain ⟨hev, heb⟩ := hent j hjP
        have hsb := sgn_bd hW hev
        have ec : cum B u8 (j + 1) = cum B u8 j + sgn B (u8 j) := rfl
        rw [show y2.toNat = j by omega]
        have h52 : ∀ s : Nat, s ≤ 5 → (u8 j ≠ 540 → siz 14 (B 5 (u8 j / 9).toNat) = s) → sgn B (u8 j) = s + (if w12 j = -1 then 0 else 1) → wp (m_X9_sign_52 x1 y1 y2 (w11 j) (s : Int) 0 (B 0) (B 3) (B 1) (B 4) (B 5) (B 9) (B 6) (B 7) (B 8) (B 10) (B 11) (B 12) (B 18 0) (B 18 1) (B 13 0) (B 13 1) (B 13 2) (B 14) (B 15) n fm t (B 17) r.1 r.2.1 r.2.2.1 r.2.2.2 w0 w1 w2 w3 w4 w5 w6 w7 w8 w9 w10 w11 w12 w13 w14 w15) (fun u : Nat × Int × Int × Int × Int => (u.1 = 0 → j < P ∧ u.2.1 = (cum B u8 (j + 1) : Int) ∧ u.2.2.1 = ((j + 1 : Nat) : Int) ∧ ¬ (0 ≤ x1 ∧ x1 < (cum B u8 (j + 1) : Int))) ∧ (u.1 ≠ 0 → (u.1 = 1 ∧ u.2.1 = (cum B u8 P : Int) ∧ ¬ (0 ≤ x1 ∧ x1 < (cum B u8 P : Int))) ∨ (u.1 = 2 ∧ ∃ i j s : Nat, i < P ∧ u.2.2.1 = (i : Int) ∧ u.2.2.2.1 = w11 i ∧ u.2.2.2.2 = (j : Int) ∧ j < s ∧ (u8 i ≠ 540 → siz 14 (B 5 (u8 i / 9).toNat) = s) ∧ s ≤ sgn B (u8 i) ∧ x1 = (cum B u8 i : Int) + j) ∨ (u.1 = 3 ∧ ∃ i s : Nat, i < P ∧ u.2.2.1 = (i : Int) ∧ w12 i ≠ -1 ∧ sgn B (u8 i) = s + 1 ∧ x1 = (cum B u8 i : Int) + s))) := by
          intro s hs5 hsz hsg
          unfold m_X9_sign_52
          refine wp_bind (P := fun v : Nat × Int × Int => (v.1 = 1 ∧ v.2.1 = (cum B u8 j : Int) + s ∧ ¬ (0 ≤ x1 ∧ x1 < (cum B u8 j : Int) + s)) ∨ (v.1 ≠ 1 ∧ ∃ q : Nat, q < s ∧ v.2.2 = (q : Int) ∧ x1 = (cum B u8 j : Int) + q)) (wp_loop (fun q z => z.1 = (cum B u8 j : Int) + q ∧ z.2 = (q : Int) ∧ ¬ (0 ≤ x1 ∧ x1 < (cum B u8 j : Int) + q)) s (by omega) ⟨by show y1 = _; omega, rfl, by omega⟩ ?_) ?_
          · intro q z hq hz
            obtain ⟨z1, z2⟩ := z
            obtain ⟨t1, t2, t3⟩ := hz
            have t1 : z1 = (cum B u8 j : Int) + q := t1
            have t2 : z2 = (q : Int) := t2
            show wp (m_X9_sign_57 x1 z1 y2 (w11 j) (s : Int) z2 0 (B 0) (B 3) (B 1) (B 4) (B 5) (B 9) (B 6) (B 7) (B 8) (B 10) (B 11) (B 12) (B 18 0) (B 18 1) (B 13 0) (B 13 1) (B 13 2) (B 14) (B 15) n fm t (B 17) r.1 r.2.1 r.2.2.1 r.2.2.2 w0 w1 w2 w3 w4 w5 w6 w7 w8 w9 w10 w11 w12 w13 w14 w15) _
            unfold m_X9_sign_57
            refine wp_gd (by omega) (wp_gd (by omega) (wp_if (fun d1 => ?_) (fun d1 => ?_)))
            · have : q = s := by omega
              subst this
              exact wp_end (by decide) (Or.inl ⟨rfl, t1, t3⟩)
            · refine wp_gd (by omega) (wp_gd h1 (wp_if (fun d2 => ?_) (fun d2 => ?_)))
              · exact wp_end (by decide) (Or.inr ⟨by show (2 : Nat) ≠ 1; decide, q, by omega, t2, by omega⟩)
              · refine wp_vl (wp_vl (wp_go ⟨by omega, ?_, ?_, ?_⟩))
                · show z1 + 1 = _
                  omega
                · show z2 + 1 = _
                  omega
                · omega
          · rintro ⟨t57, z1, z2⟩ hv
            have hv : (t57 = 1 ∧ z1 = (cum B u8 j : Int) + s ∧ ¬ (0 ≤ x1 ∧ x1 < (cum B u8 j : Int) + s)) ∨ (t57 ≠ 1 ∧ ∃ q : Nat, q < s ∧ z2 = (q : Int) ∧ x1 = (cum B u8 j : Int) + q) := hv
            rcases hv with ⟨v1, v2, v3⟩ | ⟨v1, q, v2, v3, v4⟩
            · subst v1
              show wp (if (1 : Nat) = 1 then _ else _) _
              rw [if_pos rfl, show y2.toNat = j by omega]
              refine wp_gd (by omega) (wp_gd (by omega) (wp_if (fun d1 => ?_) (fun d1 => ?_)))
              · rw [if_pos d1] at hsg
                refine wp_vl (wp_go ⟨hjP, ?_, ?_, ?_⟩)
                · show z1 = _
                  omega
                · show y2 + 1 = _
                  omega
                · omega
              · rw [if_neg d1] at hsg
                refine wp_gd (by omega) (wp_gd h1 (wp_if (fun d2 => ?_) (fun d2 => ?_)))
                · exact wp_end (by decide) (Or.inr (Or.inr ⟨rfl, j, s, hjP, s2, d1, hsg, by omega⟩))
                · refine wp_vl (wp_vl (wp_go ⟨hjP, ?_, ?_, ?_⟩))
                  · show z1 + 1 = _
                    omega
                  · show y2 + 1 = _
                    omega
                  · omega
            · show wp (if t57 = 1 then _ else _) _
              rw [if_neg v1]
              exact wp_end (by decide) (Or.inr (Or.inl ⟨rfl, j, q, s, hjP, s2, rfl, v3, v2, hsz, by omega, v4⟩))
        refine wp_gd (by omega) (wp_vl (wp_gd (by omega) (wp_if (fun d1 => ?_) (fun d1 => ?_))))
        · have h540 : u8 j = 540 := by omega
          refine h52 1 (by omega) (fun z => absurd h540 z) ?_
          rw [if_pos (c10 d1)]
          unfold sgn
          rw [if_pos h540]
        · have hn540 : u8 j ≠ 540 := by omega
          obtain ⟨s, q1, q2, q3, q4, q5, q6⟩ := sg_word hW hev hn540
          have hwj : w11 j = u8 j / 9 := by omega
          have hsz := q_sizeOf (r := B 5 (u8 j / 9).toNat) (x2 := 14) 14 4 s (top := 16383) (by omega) rfl (hW.2.2.2.2 _).2.1 q1
          refine wp_gd (by omega) ?_
          rw [hwj]
          refine wp_eq hsz ?_
          rw [← hwj]
          refine h52 s (by omega) (fun _ => q2) ?_
          rw [q4]
          by_cases h9 : u8 j % 9 = 0
          · rw [if_pos h9, if_pos (by omega)]
          · rw [if_neg h9, if_neg (by omega)]
    · rintro ⟨t13, x2, x3, x4, x6⟩ hv0
      have hv : (t13 = 1 ∧ x2 = (cum B u8 P : Int) ∧ ¬ (0 ≤ x1 ∧ x1 < (cum B u8 P : Int))) ∨ (t13 = 2 ∧ ∃ i j s : Nat, i < P ∧ x3 = (i : Int) ∧ x4 = w11 i ∧ x6 = (j : Int) ∧ j < s ∧ (u8 i ≠ 540 → siz 14 (B 5 (u8 i / 9).toNat) = s) ∧ s ≤ sgn B (u8 i) ∧ x1 = (cum B u8 i : Int) + j) ∨ (t13 = 3 ∧ ∃ i s : Nat, i < P ∧ x3 = (i : Int) ∧ w12 i ≠ -1 ∧ sgn B (u8 i) = s + 1 ∧ x1 = (cum B u8 i : Int) + s) := hv0
      clear hv0
      rcases hv with ⟨v1, v2, v3⟩ | ⟨v1, i, j, s, hi, v2, v3, v4, v5, v6, v7, v8⟩ | ⟨v1, i, s, hi, v2, v3, v4, v5⟩
      · subst v1
        show wp (if (1 : Nat) = 1 then _ else _) _
        rw [if_pos rfl]
        refine wp_gd h1 (wp_if (fun c => ?_) (fun c => ?_))
        · exact wp_some ⟨rfl, Or.inl ⟨v3, Or.inl ⟨c, rfl, v2⟩⟩⟩
        · exact wp_eq rfl (wp_some ⟨rfl, Or.inl ⟨v3, Or.inr ⟨c, rfl⟩⟩⟩)
      · subst v1
        show wp (if (2 : Nat) = 1 then _ else if (2 : Nat) = 2 then _ else _) _
        rw [if_neg (by decide), if_pos rfl]
        obtain ⟨a, b, e, c1, c2, c3, c4, c5, c6, c7, c8, c9, c10, hPC⟩ := g8 i hi
        obtain ⟨hev, heb⟩ := hent i hi
        have ec : cum B u8 (i + 1) = cum B u8 i + sgn B (u8 i) := rfl
        have hab := hPC.1
        rw [show x3.toNat = i by omega]
        refine wp_gd (by omega) (wp_if (fun d => ?_) (fun d => ?_))
        · have h540 : u8 i = 540 := by omega
          refine wp_gd (by omega) (wp_gd (by rw [c4]; omega) (wp_some ⟨rfl, Or.inr ⟨i, hi, by omega, rfl, ?_⟩⟩))
          unfold SG
          rw [if_pos h540, c4, c1]
        · have hn540 : u8 i ≠ 540 := by omega
          obtain ⟨s', q1, q2, q3, q4, q5, q6⟩ := sg_word hW hev hn540
          have hss := v6 hn540
          have hwj : x4 = u8 i / 9 := by omega
          refine wp_gd (by omega) ?_
          rw [hwj]
          refine wp_eq (q_piece (r := B 5 (u8 i / 9).toNat) (x2 := 14) (x3 := x6) 14 j (by omega) rfl v4 (hW.2.2.2.2 _).2.1 (by omega)) (wp_some ⟨rfl, Or.inr ⟨i, hi, by omega, rfl, ?_⟩⟩)
          unfold SG
          rw [if_neg hn540, if_neg ?_, show (x1 - (cum B u8 i : Int)).toNat = j by omega]
          rintro ⟨z1, z2⟩
          rw [if_neg z1] at q4
          omega
      · subst v1
        show wp (if (3 : Nat) = 1 then _ else if (3 : Nat) = 2 then _ else _) _
        rw [if_neg (by decide), if_neg (by decide)]
        obtain ⟨a, b, e, c1, c2, c3, c4, c5, c6, c7, c8, c9, c10, hPC⟩ := g8 i hi
        have ec : cum B u8 (i + 1) = cum B u8 i + sgn B (u8 i) := rfl
        have hn540 : u8 i ≠ 540 := by omega
        rw [show x3.toNat = i by omega]
        refine wp_gd (by omega) (wp_gd (by omega) (wp_some ⟨rfl, Or.inr ⟨i, hi, by omega, rfl, ?_⟩⟩))
        unfold SG
        rw [if_neg hn540, if_pos ⟨by omega, by omega⟩, show w12 i = u8 i % 9 - 1 by omega]
  obtain ⟨⟨vc1, vc2, vc3⟩, evc, hv3, hvc⟩ := hcl
  obtain ⟨⟨vr1, vr2, vr3⟩, evr, hr3, hvr⟩ := hrf
  have hv3 : vc3 = _ := hv3
  have hr3 : vr3 = _ := hr3
  subst hv3 hr3
  have hvc : (¬ (0 ≤ x1 ∧ x1 < (cum B u8 P : Int)) ∧ ((x1 = -1 ∧ vc1 = 0 ∧ vc2 = (cum B u8 P : Int)) ∨ (x1 ≠ -1 ∧ vc1 = 1))) ∨ (∃ i, i < P ∧ ((cum B u8 i : Int) ≤ x1 ∧ x1 < (cum B u8 (i + 1) : Int)) ∧ vc1 = 0 ∧ vc2 = SG B (u8 i) (x1 - (cum B u8 i : Int)) (t (u6 i).toNat)) := hvc
  have hvr : (¬ (0 ≤ x1 ∧ x1 < (cum B u8 P : Int)) ∧ ((x1 = -1 ∧ vr2 = 0 ∧ vr1 = (cum B u8 P : Int)) ∨ (x1 ≠ -1 ∧ vr2 = 1))) ∨ (∃ i, i < P ∧ ((cum B u8 i : Int) ≤ x1 ∧ x1 < (cum B u8 (i + 1) : Int)) ∧ vr2 = 0 ∧ vr1 = SG B (u8 i) (x1 - (cum B u8 i : Int)) (t (u6 i).toNat)) := hvr
  have hcP := hcb P (Nat.le_refl _)
  have hin : ∀ i, i < P → ((cum B u8 i : Int) ≤ x1 ∧ x1 < (cum B u8 (i + 1) : Int)) → 0 ≤ x1 ∧ x1 < (cum B u8 P : Int) := by
    intro i hi hx
    have := cum_mono (B := B) (E := u8) (show i + 1 ≤ P from hi)
    omega
  have hans : vr2 = vc1 ∧ ANS vc1 vc2 vr1 := by
    rcases hvc with ⟨a1, a2⟩ | ⟨i, hi, a1, a2, a3⟩
    · rcases hvr with ⟨b1, b2⟩ | ⟨i', hi', b1, b2, b3⟩
      · rcases a2 with ⟨d1, d2, d3⟩ | ⟨d1, d2⟩
        · rcases b2 with ⟨f1, f2, f3⟩ | ⟨f1, f2⟩
          · exact ⟨by omega, Or.inr ⟨d2, by omega, by omega⟩⟩
          · exact absurd d1 f1
        · rcases b2 with ⟨f1, f2, f3⟩ | ⟨f1, f2⟩
          · exact absurd f1 d1
          · exact ⟨by omega, Or.inl d2⟩
      · exact absurd (hin i' hi' b1) a1
    · rcases hvr with ⟨b1, b2⟩ | ⟨i', hi', b1, b2, b3⟩
      · exact absurd (hin i hi a1) b1
      · have hii := cum_one a1 b1
        subst hii
        refine ⟨by omega, Or.inr ⟨a2, by rw [a3, b3], ?_⟩⟩
        rw [a3]
        exact SG_bd hB (ht _)
  obtain ⟨ha1, ha2⟩ := hans
  subst ha1
  exact ⟨_, _, vr2, vc2, vr1, ha2, evc, evr, hCU, hRW⟩
