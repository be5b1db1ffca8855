/-! the reference's read, whole -/
abbrev Rr (rest : Nat → Int) : Nat → Nat → Int := fun b k => rest (10 * b + k)
abbrev pent (pW pE : Nat → Int) : Nat → Int := fun i => 9 * pW i + pE i + 1
/-- what the reference knows of its reading -/
def RDR (B : Nat → Nat → Int) (t : Nat → Int) (n : Nat) (rest ahead : Nat → Int) (parts total : Int) (pF pT pW pE : Nat → Int) : Prop := ∃ P : Nat, parts = P ∧ P ≤ 36 ∧ BR B t n 0 rest ∧ total = rest 9 ∧ CHN B t n (Rr rest) 134217728 total P pF pT (pent pW pE) ∧ (∀ i, i < P → (0 ≤ pW i ∧ pW i ≤ 60) ∧ (-1 ≤ pE i ∧ pE i < 8) ∧ (pW i = 60 → pE i = -1)) ∧ AHD B t n ahead
set_option maxHeartbeats 4000000 in
theorem q_read24 {B : Nat → Nat → Int} {t : Nat → Int} (hB : GB B) (hW : GW B) (hS : GS B) {n fm : Nat} (hn : n ≤ 36) {fF fT fW fE tb re ne rest ahead pF pT pW pE : Nat → Int} (hT : TBL B t n (540 * n) tb) (hF : FX B n fm fF fT fW fE) (hFi : ∀ i, inI (fF i) ∧ inI (fT i) ∧ inI (fW i) ∧ inI (fE i)) (hrs : ∀ i, inI (rest i)) (hah : ∀ i, inI (ahead i)) {sl gu ba nn mm isR isM parts total found f0 k0 : Int} (eg : gu = B 13 1) (eb : ba = B 13 2) (en : nn = n) (em : mm = fm) (pr : Nat → Int) :
    wp (m_X9_read_24 (B 0) (B 3) (B 1) (B 4) (B 9) (B 6) (B 7) (B 8) (B 11) (B 12) (B 18 0) (B 18 1) sl gu ba (B 14) (B 15) nn mm t (B 17) fF fT fW fE isR isM tb re ne rest ahead parts total pF pT pW pE found f0 k0) (fun u => u.1 = isR ∧ u.2.1 = 1 ∧ u.2.2.1 = tb ∧ u.2.2.2.1 = re ∧ u.2.2.2.2.1 = ne ∧ RDR B t n u.2.2.2.2.2.1 u.2.2.2.2.2.2.1 u.2.2.2.2.2.2.2.1 u.2.2.2.2.2.2.2.2.1 u.2.2.2.2.2.2.2.2.2.1 u.2.2.2.2.2.2.2.2.2.2.1 u.2.2.2.2.2.2.2.2.2.2.2.1 u.2.2.2.2.2.2.2.2.2.2.2.2.1) := by
  unfold m_X9_read_24
  -- the rests at the line's end
  refine wp_bind (P := fun u : Nat × Int × (Nat → Int) => (∀ k : Nat, k ≤ 9 → u.2.2 (10 * n + k) = 0) ∧ ∀ i, inI (u.2.2 i)) (wp_loop (fun k y => y.1 = (k : Int) ∧ (∀ k' : Nat, k' < k → y.2 (10 * n + k') = 0) ∧ ∀ i, inI (y.2 i)) 10 (by omega) ⟨rfl, fun k' h => absurd h (by omega), hrs⟩ ?_) ?_
  · intro k y hk hs
    obtain ⟨a1, a2, a3⟩ := hs
    unfold m_X9_read_31
    refine wp_gd (by omega) (wp_if (fun c1 => ?_) (fun c1 => ?_))
    · exact wp_end (by decide) ⟨fun k' hk' => a2 k' (by omega), a3⟩
    · have et : (10 * nn + y.1).toNat = 10 * n + k := by omega
      refine wp_eq (show m_X9_at nn y.1 = some (10 * nn + y.1) from rfl) ?_
      rw [et]
      refine wp_gd (by omega) (wp_vl (wp_vl (wp_go ⟨by omega, by show y.1 + 1 = _; omega, fun k' hk' => ?_, uz_inI a3 (by decide)⟩)))
      show uz y.2 (10 * n + k) 0 (10 * n + k') = 0
      by_cases h : k' = k
      · rw [h, uz_at]
      · rw [uz_ne _ _ (by omega)]
        exact a2 k' (by omega)
  · rintro ⟨t31, y1, r1⟩ ⟨g1, g2⟩
    have g1 : ∀ k : Nat, k ≤ 9 → r1 (10 * n + k) = 0 := g1
    -- the rests from each place
    refine wp_vl (wp_bind (P := fun u : Nat × Int × st6 => BR B t n 0 u.2.2.1 ∧ u.2.2.2 = (pF, pT, pW, pE, found)) (wp_loop (fun j y => y.1 = (n : Int) - 1 - j ∧ BR B t n (n - j) y.2.1 ∧ y.2.2 = (pF, pT, pW, pE, found)) n (by omega) ⟨by show nn - 1 = _; omega, ⟨g1, ⟨fun b k h1 h2 h3 h4 => ?_, g2⟩, fun a h1 h2 => absurd h1 (by omega)⟩, rfl⟩ ?_) ?_)
    · have hb : b = n := by omega
      subst hb
      show -(4000 * ((b : Int) - b)) ≤ r1 (10 * b + k) ∧ r1 (10 * b + k) ≤ 4000 * ((b : Int) - b)
      rw [g1 k h3]
      omega
    · intro j y hj hs
      obtain ⟨a1, a2, a3⟩ := hs
      unfold m_X9_read_64
      refine wp_gd (by omega) (wp_if (fun c1 => ?_) (fun c1 => ?_))
      · rw [show n - j = 0 by omega] at a2
        exact wp_end (by decide) ⟨a2, a3⟩
      · obtain ⟨a, ea⟩ : ∃ a, a = n - (j + 1) := ⟨_, rfl⟩
        have han : a < n := by omega
        have hya : y.1 = a := by omega
        rw [show n - j = a + 1 by omega] at a2
        refine wp_bind (P := fun u : Nat × Int × (Nat → Int) => (∀ k : Nat, k ≤ 9 → u.2.2 (10 * a + k) = 134217728) ∧ (∀ i, (i < 10 * a ∨ 10 * (a + 1) ≤ i) → u.2.2 i = y.2.1 i) ∧ ∀ i, inI (u.2.2 i)) (wp_loop (fun k d => d.1 = (k : Int) ∧ (∀ k' : Nat, k' < k → d.2 (10 * a + k') = 134217728) ∧ (∀ i, (i < 10 * a ∨ 10 * (a + 1) ≤ i) → d.2 i = y.2.1 i) ∧ ∀ i, inI (d.2 i)) 10 (by omega) ⟨rfl, fun k' h => absurd h (by omega), fun i _ => rfl, a2.2.1.2⟩ ?_) ?_
        · intro k d hk hsd
          obtain ⟨d1, d2, d3, d4⟩ := hsd
          unfold m_X9_read_70
          refine wp_gd (by omega) (wp_if (fun c2 => ?_) (fun c2 => ?_))
          · exact wp_end (by decide) ⟨fun k' hk' => d2 k' (by omega), d3, d4⟩
          · have et : (10 * y.1 + d.1).toNat = 10 * a + k := by omega
            refine wp_eq (show m_X9_at y.1 d.1 = some (10 * y.1 + d.1) from rfl) ?_
            rw [et]
            refine wp_gd (by omega) (wp_vl (wp_vl (wp_go ⟨by omega, by show d.1 + 1 = _; omega, fun k' hk' => ?_, fun i hi => ?_, uz_inI d4 (by decide)⟩)))
            · show uz d.2 (10 * a + k) 134217728 (10 * a + k') = 134217728
              by_cases h : k' = k
              · rw [h, uz_at]
              · rw [uz_ne _ _ (by omega)]
                exact d2 k' (by omega)
            · show uz d.2 (10 * a + k) 134217728 i = _
              rw [uz_ne _ _ (by omega)]
              exact d3 i hi
        · rintro ⟨t70, y2, r2⟩ ⟨k1, k2, k3⟩
          have k1 : ∀ k : Nat, k ≤ 9 → r2 (10 * a + k) = 134217728 := k1
          have k2 : ∀ i, (i < 10 * a ∨ 10 * (a + 1) ≤ i) → r2 i = y.2.1 i := k2
          have hBR : BR B t n (a + 1) r2 := by
            obtain ⟨b1, b2, b3⟩ := a2
            refine ⟨fun k hk => ?_, ⟨fun b k h1 h2 h3 h4 => ?_, k3⟩, fun a' h1 h2 k hk => ?_⟩
            · rw [k2 _ (by omega)]
              exact b1 k hk
            · rw [k2 _ (by omega)] at h4 ⊢
              exact b2.1 b k h1 h2 h3 h4
            · rw [k2 _ (by omega)]
              refine (b3 a' h1 h2 k hk).iff (fun x => ?_)
              constructor
              · rintro ⟨e, b, h⟩
                exact ⟨e, b, (via_congr (fun i hi => k2 i (by omega))).mp h⟩
              · rintro ⟨e, b, h⟩
                exact ⟨e, b, (via_congr (fun i hi => k2 i (by omega))).mpr h⟩
          refine wp_bind (q_each0 hB hW hS hn han hT hF hFi (s0 := (r2, y.2.2)) hBR k1 hya eg eb en em) ?_
          rintro ⟨q1, q2, q3, q4, q5, q6⟩ ⟨f1, f2⟩
          refine wp_vl (wp_go ⟨by omega, by show y.1 + -1 = _; omega, ?_, f2.trans a3⟩)
          rw [← ea]
          exact f1
    · rintro ⟨t64, y1', r2, q2, q3, q4, q5, q6⟩ ⟨hBR, hq⟩
      have hBR : BR B t n 0 r2 := hBR
      have hq : (q2, q3, q4, q5, q6) = (pF, pT, pW, pE, found) := hq
      have e2 : pF = q2 := (congrArg (fun z => z.1) hq).symm
      have e3 : pT = q3 := (congrArg (fun z => z.2.1) hq).symm
      have e4 : pW = q4 := (congrArg (fun z => z.2.2.1) hq).symm
      have e5 : pE = q5 := (congrArg (fun z => z.2.2.2.1) hq).symm
      have e6 : found = q6 := (congrArg (fun z => z.2.2.2.2) hq).symm
      subst e2
      subst e3
      subst e4
      subst e5
      subst e6
      refine wp_eq (show m_X9_at 0 9 = some (10 * 0 + 9) from rfl) (wp_gd (by decide) (wp_vl ?_))
      show wp ((zloop _ FU (0, 9, r2, 0, pF, pT, pW, pE, found, f0, k0)).bind _) _
      have htI := hBR.2.1.2 9
      have etot : (10 * (0 : Int) + 9).toNat = 9 := by decide
      rw [etot]
      -- the parts
      refine wp_bind (P := fun u : Nat × Int × Int × (Nat → Int) × Int × (Nat → Int) × (Nat → Int) × (Nat → Int) × (Nat → Int) × Int × Int × Int => u.2.2.2.1 = r2 ∧ ∃ P : Nat, u.2.2.2.2.1 = P ∧ P ≤ 36 ∧ CHN B t n (Rr r2) 134217728 (r2 9) P u.2.2.2.2.2.1 u.2.2.2.2.2.2.1 (pent u.2.2.2.2.2.2.2.1 u.2.2.2.2.2.2.2.2.1) ∧ ∀ i, i < P → (0 ≤ u.2.2.2.2.2.2.2.1 i ∧ u.2.2.2.2.2.2.2.1 i ≤ 60) ∧ (-1 ≤ u.2.2.2.2.2.2.2.2.1 i ∧ u.2.2.2.2.2.2.2.2.1 i < 8) ∧ (u.2.2.2.2.2.2.2.1 i = 60 → u.2.2.2.2.2.2.2.2.1 i = -1)) ?_ ?_
      · by_cases hlt : r2 9 < 134217728
        · refine wp_loop (fun i y => ∃ a K : Nat, y.1 = a ∧ y.2.1 = K ∧ K ≤ 9 ∧ a ≤ n ∧ i ≤ a ∧ y.2.2.1 = r2 ∧ y.2.2.2.1 = (i : Int) ∧ r2 (10 * a + K) < 134217728 ∧ (i = 0 → a = 0 ∧ K = 9) ∧ (∀ j, i = j + 1 → y.2.2.2.2.2.1 j = a ∧ kd (B 6) (pent y.2.2.2.2.2.2.1 y.2.2.2.2.2.2.2.1 j) = K) ∧ (∀ i', i' < i → LK B t n (Rr r2) 134217728 (r2 9) y.2.2.2.2.1 y.2.2.2.2.2.1 (pent y.2.2.2.2.2.2.1 y.2.2.2.2.2.2.2.1) i') ∧ ∀ i', i' < i → (0 ≤ y.2.2.2.2.2.2.1 i' ∧ y.2.2.2.2.2.2.1 i' ≤ 60) ∧ (-1 ≤ y.2.2.2.2.2.2.2.1 i' ∧ y.2.2.2.2.2.2.2.1 i' < 8) ∧ (y.2.2.2.2.2.2.1 i' = 60 → y.2.2.2.2.2.2.2.1 i' = -1)) n (by omega) ⟨0, 9, rfl, rfl, by omega, by omega, by omega, rfl, rfl, hlt, fun _ => ⟨rfl, rfl⟩, fun j h => absurd h (by omega), fun i' h => absurd h (by omega), fun i' h => absurd h (by omega)⟩ ?_
          intro i y hi hs
          obtain ⟨a, K, a1, a2, a3, a4, a5, a6, a7, a8, a9, a10, a11, a12⟩ := hs
          unfold m_X9_read_131
          refine wp_gd htI (wp_if (fun c => absurd c (by omega)) (fun _ => ?_))
          refine wp_gd (by omega) (wp_gd (by omega) (wp_if (fun c1 => ?_) (fun c1 => ?_)))
          · refine wp_end (by decide) ⟨a6, i, a7, by omega, ⟨by omega, a11, fun hz => ?_, fun hz => ?_⟩, a12⟩
            · obtain ⟨j, rfl⟩ : ∃ j, i = j + 1 := ⟨i - 1, by omega⟩
              refine ⟨?_, hlt⟩
              show y.2.2.2.2.2.1 (j + 1 - 1) = n
              rw [show j + 1 - 1 = j by omega, (a10 j rfl).1]
              omega
            · have := (a9 hz).1
              exact Or.inl (by omega)
          · have hP36 : i < 36 := by omega
            refine wp_bind (q_each1 hB hW hS hn (a := a) (by omega) hT hF hFi (s0 := (y.2.2.1, y.2.2.2.2.1, y.2.2.2.2.2.1, y.2.2.2.2.2.2.1, y.2.2.2.2.2.2.2.1, 0)) (P := i) (K := K) (by rw [a6]; exact hBR) rfl a1 eg eb en em a7 hP36 a1 a2 a3 (by show y.2.2.1 (10 * a + K) < 134217728; rw [a6]; exact a8)) ?_
            rintro ⟨z1, z2, z3, z4, z5, z6⟩ ⟨f1, e, b, f2, f3, f4, f5, f6⟩
            have f1 : z1 = y.2.2.1 := f1
            have f3 : z2 = uz y.2.2.2.2.1 i a := f3
            have f4 : z3 = uz y.2.2.2.2.2.1 i b := f4
            have f5 : z4 = uz y.2.2.2.2.2.2.1 i ((e : Int) / 9) := f5
            have f6 : z5 = uz y.2.2.2.2.2.2.2.1 i ((e : Int) % 9 - 1) := f6
            have f2 : FM B t n a y.2.2.1 K (y.2.2.1 (10 * a + K)) e b := f2
            rw [a6] at f2
            have f2 : FMG B t n a (Rr r2) 134217728 K (r2 (10 * a + K)) e b := f2
            have fin := FMG_in f2
            have hkb := kd_bd hW fin.2.2.1
            have ek : (((kd (B 6) e).toNat : Nat) : Int) = kd (B 6) e := by omega
            have hpe : ∀ i' : Nat, i' = i → pent z4 z5 i' = e := by
              intro i' h
              show 9 * z4 i' + z5 i' + 1 = e
              rw [h, f5, f6, uz_at, uz_at]
              omega
            have hpo : ∀ i' : Nat, i' ≠ i → pent z4 z5 i' = pent y.2.2.2.2.2.2.1 y.2.2.2.2.2.2.2.1 i' := by
              intro i' h
              show 9 * z4 i' + z5 i' + 1 = 9 * y.2.2.2.2.2.2.1 i' + y.2.2.2.2.2.2.2.1 i' + 1
              rw [f5, f6, uz_ne _ _ h, uz_ne _ _ h]
            have hki : m_X9_kindOf (z4 i) (B 6) = some (kd (B 6) e) := by
              have h9 := q_rkind (K := B 6) (w := (e : Int) / 9) (e := (e : Int) % 9 - 1) (by omega) (by omega) (by omega)
              rw [show 9 * ((e : Int) / 9) + ((e : Int) % 9 - 1) + 1 = e by omega] at h9
              rw [f5, uz_at]
              exact h9
            have ei : y.2.2.2.1.toNat = i := by omega
            show wp (gd (0 ≤ y.2.2.2.1 ∧ y.2.2.2.1 < 36) _) _
            rw [ei]
            refine wp_gd (by omega) (wp_vl (wp_gd (by omega) (wp_eq hki (wp_vl (wp_go ⟨by omega, b, (kd (B 6) e).toNat, ?_, ek.symm, by omega, fin.2.1, by omega, f1.trans a6, by show y.2.2.2.1 + 1 = _; omega, fin.2.2.2.2.1, fun z => absurd z (by omega), fun j hj => ?_, fun i' hi' => ?_, fun i' hi' => ?_⟩)))))
            · show z3 i = b
              rw [f4, uz_at]
            · have hji : j = i := by omega
              subst hji
              refine ⟨?_, ?_⟩
              · show z3 j = b
                rw [f4, uz_at]
              · show kd (B 6) (pent z4 z5 j) = _
                rw [hpe j rfl]
                exact ek.symm
            · show LK B t n (Rr r2) 134217728 (r2 9) z2 z3 (pent z4 z5) i'
              by_cases hii : i' = i
              · subst hii
                refine ⟨a, b, e, K, r2 (10 * a + K), by rw [f3, uz_at], by rw [f4, uz_at], hpe i' rfl, fun z => ?_, fun j hj => ?_, f2⟩
                · obtain ⟨z1', z2'⟩ := a9 z
                  refine ⟨z1', z2', ?_⟩
                  rw [z1', z2']
                · subst hj
                  obtain ⟨w1, w2⟩ := a10 j rfl
                  rw [f4, uz_ne _ _ (by omega), hpo j (by omega)]
                  exact ⟨w1, w2, rfl⟩
              · obtain ⟨a', b', e', K', w', g1', g2', g3', g4', g5', g6'⟩ := a11 i' (by omega)
                refine ⟨a', b', e', K', w', by rw [f3, uz_ne _ _ hii]; exact g1', by rw [f4, uz_ne _ _ hii]; exact g2', by rw [hpo i' hii]; exact g3', g4', fun j hj => ?_, g6'⟩
                rw [f4, uz_ne _ _ (by omega), hpo j (by omega)]
                exact g5' j hj
            · show (0 ≤ z4 i' ∧ z4 i' ≤ 60) ∧ (-1 ≤ z5 i' ∧ z5 i' < 8) ∧ (z4 i' = 60 → z5 i' = -1)
              by_cases hii : i' = i
              · rw [hii, f5, f6, uz_at, uz_at]
                omega
              · rw [f5, f6, uz_ne _ _ hii, uz_ne _ _ hii]
                exact a12 i' (by omega)
        · refine wp_loop (fun i y => y = (0, 9, r2, 0, pF, pT, pW, pE, found, f0, k0)) 0 (by omega) rfl ?_
          rintro i y hi rfl
          unfold m_X9_read_131
          refine wp_gd htI (wp_if (fun _ => ?_) (fun c => absurd (by omega) c))
          exact wp_end (by decide) ⟨rfl, 0, rfl, by omega, ⟨by omega, fun i' h => absurd h (by omega), fun h => absurd h (by omega), fun _ => Or.inr (by omega)⟩, fun i' h => absurd h (by omega)⟩
      · rintro ⟨t131, x1, x2, r3, pa, q2, q3, q4, q5, q6, q7, q8⟩ ⟨h1, P, h2, h3, h4, h5⟩
        have h1 : r3 = r2 := h1
        subst h1
        unfold m_X9_read_206
        refine wp_bind (q_readAhead hB hW hS hn hT hF hFi hah eg eb en em) ?_
        intro ah2 hAH
        exact wp_some ⟨rfl, rfl, rfl, rfl, rfl, P, h2, h3, hBR, rfl, h4, h5, hAH⟩
