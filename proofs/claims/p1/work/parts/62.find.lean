/-! the reference: the first of the parts with which the rest costs what is wanted -/
def mtc (B : Nat → Nat → Int) (t : Nat → Int) (n a : Nat) (rest : Nat → Int) (k wanted : Int) (e b : Nat) : Prop := via B t n a rest k e b wanted
def JF (B : Nat → Nat → Int) (t : Nat → Int) (n a : Nat) (k wanted : Int) (pa : Nat) (s0 : st6) (ent cb : Nat) (st : st6) : Prop := st.1 = s0.1 ∧ ((st.2.2.2.2.2 = 0 ∧ st.2.1 = s0.2.1 ∧ st.2.2.1 = s0.2.2.1 ∧ st.2.2.2.1 = s0.2.2.2.1 ∧ st.2.2.2.2.1 = s0.2.2.2.2.1 ∧ ∀ e b, bfr ent cb e b → ¬ mtc B t n a s0.1 k wanted e b) ∨ (st.2.2.2.2.2 = 1 ∧ ∃ e b : Nat, bfr ent cb e b ∧ mtc B t n a s0.1 k wanted e b ∧ (∀ e' b', bfr e b e' b' → ¬ mtc B t n a s0.1 k wanted e' b') ∧ st.2.1 = uz s0.2.1 pa a ∧ st.2.2.1 = uz s0.2.2.1 pa b ∧ st.2.2.2.1 = uz s0.2.2.2.1 pa ((e : Int) / 9) ∧ st.2.2.2.2.1 = uz s0.2.2.2.2.1 pa ((e : Int) % 9 - 1)))
theorem JF.later {B : Nat → Nat → Int} {t : Nat → Int} {n a : Nat} {k wanted : Int} {pa : Nat} {s0 : st6} {ent cb ent' cb' : Nat} {st : st6} (h : JF B t n a k wanted pa s0 ent cb st) (h1 : ∀ e b, bfr ent cb e b → bfr ent' cb' e b) (h2 : ∀ e b, bfr ent' cb' e b → ¬ bfr ent cb e b → ¬ mtc B t n a s0.1 k wanted e b) : JF B t n a k wanted pa s0 ent' cb' st := by
  refine ⟨h.1, ?_⟩
  rcases h.2 with ⟨a1, a2, a3, a4, a5, a6⟩ | ⟨a1, e, b, a2, a3⟩
  · refine Or.inl ⟨a1, a2, a3, a4, a5, fun e b hb => ?_⟩
    by_cases hc : bfr ent cb e b
    · exact a6 e b hc
    · exact h2 e b hb hc
  · exact Or.inr ⟨a1, e, b, h1 e b a2, a3⟩
set_option maxHeartbeats 2000000 in
theorem q_onePart1 {B : Nat → Nat → Int} {t : Nat → Int} (hB : GB B) (hW : GW B) (hS : GS B) {n fm a b : Nat} (hn : n ≤ 36) (hab : a < b) (hbn : b ≤ n) {fF fT fW fE tb : Nat → Int} (hT : TBL B t n (540 * n) tb) (hF : FX B n fm fF fT fW fE) (hFi : ∀ i, inI (fF i) ∧ inI (fT i) ∧ inI (fW i) ∧ inI (fE i)) {s0 st : st6} (hR : RB n a s0.1) {w e : Int} (hw : (0 ≤ w ∧ w < B 18 0) ∨ w = 60) (he : -1 ≤ e ∧ e < 8) (he2 : w ≠ 60 → e < B 18 1) (hwe : w = 60 → e = -1) {x1 x5 gu ba nn mm pa f0 k0 : Int} {P K : Nat} (e1 : x1 = a) (e5 : x5 = b) (eg : gu = B 13 1) (eb : ba = B 13 2) (en : nn = n) (em : mm = fm) (ep : pa = P) (hP : P < 36) (ef : f0 = a) (ek0 : k0 = K) (hK : K ≤ 9)
    (hJ : JF B t n a k0 (s0.1 (10 * a + K)) P s0 (9 * w + e + 1).toNat b st) : wp (m_X9_onePart x1 x5 w e 1 (B 6) (B 7) (B 8) (B 11) (B 12) gu ba (B 14) (B 15) nn mm (B 17) fF fT fW fE tb st.1 pa st.2.1 st.2.2.1 st.2.2.2.1 st.2.2.2.2.1 st.2.2.2.2.2 f0 k0) (fun u => JF B t n a k0 (s0.1 (10 * a + K)) P s0 (9 * w + e + 1).toNat (b + 1) u) := by
  have hW0 := hW.1
  have hE0 := hW.2.1
  obtain ⟨E, eE⟩ : ∃ E : Nat, (9 * w + e + 1) = E := ⟨(9 * w + e + 1).toNat, by omega⟩
  have eE2 : (9 * w + e + 1).toNat = E := by omega
  rw [eE2] at hJ ⊢
  have j1 := hJ.1
  have hmono : ∀ e' b', bfr E b e' b' → bfr E (b + 1) e' b' := by
    intro e' b' h
    unfold bfr at h ⊢
    omega
  have hnew : ∀ e' b', bfr E (b + 1) e' b' → ¬ bfr E b e' b' → e' = E ∧ b' = b := by
    intro e' b' h1 h2
    unfold bfr at h1 h2
    omega
  have hsame : ¬ mtc B t n a s0.1 k0 (s0.1 (10 * a + K)) E b → JF B t n a k0 (s0.1 (10 * a + K)) P s0 E (b + 1) (st.1, st.2.1, st.2.2.1, st.2.2.2.1, st.2.2.2.2.1, st.2.2.2.2.2) := by
    intro hno
    refine hJ.later hmono (fun e' b' h1 h2 => ?_)
    obtain ⟨rfl, rfl⟩ := hnew e' b' h1 h2
    exact hno
  unfold m_X9_onePart
  refine wp_bind (q_rcost hB hW hn hT hab hbn hw ⟨he.1, by by_cases h : w = 60 <;> omega⟩ hwe e1 e5 eg eb) ?_
  intro c hc
  rw [eE] at hc
  by_cases hev : EV B E
  · have hcl := hc.1 hev
    have hkb := kd_bd hW hev
    have hcI : inI c := by
      rcases hcl with ⟨h1, _⟩ | ⟨h1, h2, _⟩
      · omega
      · have := CL_bd hB hW hev h2
        omega
    refine wp_gd hcI (wp_if (fun c1 => ?_) (fun c1 => ?_))
    · refine wp_some (hsame (fun hx => ?_))
      obtain ⟨c', h1, _⟩ := hx
      have := (hcl.le h1.2.2.2.1).2
      omega
    · have hmem := hcl.mem (by omega)
      have hcb := CL_bd hB hW hev hmem
      have hk := q_rkind (K := B 6) (w := w) (e := e) (by omega) he hwe
      rw [eE] at hk
      have hkt : (10 * x5 + kd (B 6) E).toNat = 10 * b + (kd (B 6) E).toNat := by omega
      refine wp_eq hk (wp_eq (show m_X9_at x5 (kd (B 6) E) = some (10 * x5 + kd (B 6) E) from rfl) ?_)
      rw [hkt, j1]
      refine wp_gd (by omega) (wp_gd (hR.2 _) (wp_if (fun c2 => ?_) (fun c2 => ?_)))
      · refine wp_some ?_
        have h9 := hsame (fun hx => by obtain ⟨c', _, h2, _⟩ := hx; omega)
        rw [j1] at h9
        exact h9
      · have hrb := hR.1 b (kd (B 6) E).toNat (by omega) hbn (by omega) (by omega)
        refine wp_bind (q_isAllowed hB hn hab hbn hF hFi (w := w) (e := e) (by omega) he hwe e1 e5 en em) ?_
        intro r hr
        rw [eE] at hr
        refine wp_gd (by omega) (wp_if (fun c3 => ?_) (fun c3 => ?_))
        · refine wp_some ?_
          have h9 := hsame (fun hx => by
            obtain ⟨c', h1, _⟩ := hx
            rcases hr with ⟨r1, _⟩ | ⟨_, r2⟩
            · omega
            · exact r2 h1.2.2.1)
          rw [j1] at h9
          exact h9
        · have hal : AL B n a b E := by
            rcases hr with ⟨_, r2⟩ | ⟨r1, _⟩
            · exact r2
            · omega
          have hpc : PC B t n a b E c := ⟨⟨hab, hbn⟩, hev, hal, hmem, fun x hx => (hcl.le hx).1⟩
          have hst := stp_bd hS (k := k0) (by omega) hkb
          have hmt : ∀ z, mtc B t n a s0.1 k0 z E b ↔ c + s0.1 (10 * b + (kd (B 6) E).toNat) + stp B k0 (kd (B 6) E) = z := by
            intro z
            constructor
            · rintro ⟨c', h1, _, h3⟩
              have := PC_one h1 hpc
              omega
            · intro h
              exact ⟨c, hpc, by omega, by omega⟩
          refine wp_eq hk (wp_eq (show m_X9_at x5 (kd (B 6) E) = some (10 * x5 + kd (B 6) E) from rfl) ?_)
          rw [hkt]
          refine wp_gd (by omega) (wp_vl (wp_gd (by decide) (wp_if (fun z => absurd z (by decide)) (fun _ => ?_))))
          have hfI : inI st.2.2.2.2.2 := by
            rcases hJ.2 with ⟨z, _⟩ | ⟨z, _⟩ <;> omega
          refine wp_gd hfI (wp_if (fun c4 => ?_) (fun c4 => ?_))
          · have et : (10 * f0 + k0).toNat = 10 * a + K := by omega
            have hr2 := hR.2 (10 * a + K)
            refine wp_eq hk (wp_eq (q_stepOf hB (k := k0) (by omega) hkb) (wp_eq (show m_X9_at f0 k0 = some (10 * f0 + k0) from rfl) ?_))
            rw [et]
            refine wp_gd (by omega) (wp_gd (by omega) (wp_gd hr2 (wp_if (fun c5 => ?_) (fun c5 => ?_))))
            · refine wp_gd (by omega) (wp_vl (wp_gd (by omega) (wp_vl (wp_gd (by omega) (wp_vl (wp_gd (by omega) (wp_vl (wp_some ?_))))))))
              rcases hJ.2 with ⟨a1, a2, a3, a4, a5, a6⟩ | ⟨a1, _⟩
              · rw [a2, a3, a4, a5, show pa.toNat = P by omega]
                refine ⟨rfl, Or.inr ⟨rfl, E, b, Or.inr ⟨rfl, by omega⟩, (hmt _).mpr c5, a6, ?_, ?_, ?_, ?_⟩⟩
                · show uz s0.2.1 P x1 = _
                  rw [e1]
                · show uz s0.2.2.1 P x5 = _
                  rw [e5]
                · show uz s0.2.2.2.1 P w = _
                  rw [show w = (E : Int) / 9 by omega]
                · show uz s0.2.2.2.2.1 P e = _
                  rw [show e = (E : Int) % 9 - 1 by omega]
              · omega
            · refine wp_some ?_
              have h9 := hsame (fun hx => c5 ((hmt _).mp hx))
              rw [j1] at h9
              exact h9
          · refine wp_some ?_
            refine ⟨rfl, ?_⟩
            rcases hJ.2 with ⟨a1, _⟩ | ⟨a1, e', b', a2, a3⟩
            · exact absurd a1 c4
            · exact Or.inr ⟨a1, e', b', hmono _ _ a2, a3⟩
  · have hcN := hc.2 hev
    refine wp_gd (by omega) (wp_if (fun c1 => ?_) (fun c1 => absurd (by omega) c1))
    refine wp_some (hsame (fun hx => ?_))
    obtain ⟨c', h1, _⟩ := hx
    exact hev h1.2.1
