/-! the reference: one part -/
def GS (B : Nat → Nat → Int) : Prop := ∀ i, i < 81 → 0 ≤ B 14 i ∧ B 14 i ≤ 90
theorem stp_bd {B : Nat → Nat → Int} (hS : GS B) {k j : Int} (hk : 0 ≤ k ∧ k ≤ 9) (hj : 0 ≤ j ∧ j ≤ 8) : -62 ≤ stp B k j ∧ stp B k j ≤ 90 := by
  unfold stp
  by_cases h : k = 9
  · rw [if_pos h]
    omega
  · rw [if_neg h]
    have h1 := hS (9 * k + j).toNat (by omega)
    have h2 := bl_le (B 15 (9 * k + j).toNat)
    omega
theorem kd_bd {B : Nat → Nat → Int} (hW : GW B) {e : Int} (he : EV B e) : 0 ≤ kd (B 6) e ∧ kd (B 6) e ≤ 8 := by
  unfold kd
  by_cases h : e = 540
  · rw [if_pos h]
    omega
  · rw [if_neg h]
    rcases he with z | ⟨z1, z2, z3, _⟩
    · exact absurd z h
    · have := (hW.2.2.1 (e / 9).toNat (by omega)).2.2.1
      omega
/-- a part that is allowed, at its least cost -/
def PC (B : Nat → Nat → Int) (t : Nat → Int) (n a b : Nat) (e c : Int) : Prop := (a < b ∧ b ≤ n) ∧ EV B e ∧ AL B n a b e ∧ CL B t e a b c ∧ ∀ x, CL B t e a b x → c ≤ x
theorem PC_one {B : Nat → Nat → Int} {t : Nat → Int} {n a b : Nat} {e c c' : Int} (h : PC B t n a b e c) (h' : PC B t n a b e c') : c = c' := by
  have h1 := h.2.2.2.2 _ h'.2.2.2.1
  have h2 := h'.2.2.2.2 _ h.2.2.2.1
  omega
/-- the rest's row is in its range -/
def RB (n lo : Nat) (rest : Nat → Int) : Prop := (∀ (b : Nat) (k : Nat), lo ≤ b → b ≤ n → k ≤ 9 → rest (10 * b + k) < 134217728 → -(4000 * ((n : Int) - b)) ≤ rest (10 * b + k) ∧ rest (10 * b + k) ≤ 4000 * ((n : Int) - b)) ∧ ∀ i, inI (rest i)
/-- what a part with its rest costs behind a kind -/
def via (B : Nat → Nat → Int) (t : Nat → Int) (n a : Nat) (rest : Nat → Int) (k : Int) (e b : Nat) (x : Int) : Prop := ∃ c, PC B t n a b e c ∧ rest (10 * b + (kd (B 6) e).toNat) < 134217728 ∧ x = c + rest (10 * b + (kd (B 6) e).toNat) + stp B k (kd (B 6) e)
def bfr (ent cb e b : Nat) : Prop := e < ent ∨ (e = ent ∧ b < cb)
def JR (B : Nat → Nat → Int) (t : Nat → Int) (n a : Nat) (s0 : st6) (ent cb : Nat) (st : st6) : Prop := st.2 = s0.2 ∧ (∀ i, 10 * (a + 1) ≤ i → st.1 i = s0.1 i) ∧ (∀ i, inI (st.1 i)) ∧ ∀ k : Nat, k ≤ 9 → Lst (fun x => ∃ e b, bfr ent cb e b ∧ via B t n a s0.1 k e b x) 134217728 (st.1 (10 * a + k))
set_option maxHeartbeats 2000000 in
theorem q_onePart0 {B : Nat → Nat → Int} {t : Nat → Int} (hB : GB B) (hW : GW B) (hS : GS B) {n fm a b : Nat} (hn : n ≤ 36) (hab : a < b) (hbn : b ≤ n) {fF fT fW fE tb : Nat → Int} (hT : TBL B t n (540 * n) tb) (hF : FX B n fm fF fT fW fE) (hFi : ∀ i, inI (fF i) ∧ inI (fT i) ∧ inI (fW i) ∧ inI (fE i)) {s0 st : st6} (hR : RB n (a + 1) s0.1) {w e : Int} (hw : (0 ≤ w ∧ w < B 18 0) ∨ w = 60) (he : -1 ≤ e ∧ e < 8) (he2 : w ≠ 60 → e < B 18 1) (hwe : w = 60 → e = -1) {x1 x5 gu ba nn mm pa f0 k0 : Int} (e1 : x1 = a) (e5 : x5 = b) (eg : gu = B 13 1) (eb : ba = B 13 2) (en : nn = n) (em : mm = fm)
    (hJ : JR B t n a s0 (9 * w + e + 1).toNat b st) : wp (m_X9_onePart x1 x5 w e 0 (B 6) (B 7) (B 8) (B 11) (B 12) gu ba (B 14) (B 15) nn mm (B 17) fF fT fW fE tb st.1 pa st.2.1 st.2.2.1 st.2.2.2.1 st.2.2.2.2.1 st.2.2.2.2.2 f0 k0) (fun u => JR B t n a s0 (9 * w + e + 1).toNat (b + 1) u) := by
  have hW0 := hW.1
  have hE0 := hW.2.1
  obtain ⟨E, eE⟩ : ∃ E : Nat, (9 * w + e + 1) = E := ⟨(9 * w + e + 1).toNat, by omega⟩
  have eE2 : (9 * w + e + 1).toNat = E := by omega
  rw [eE2] at hJ ⊢
  obtain ⟨j1, j2, j3, j4⟩ := hJ
  have hsame : (∀ k x, ¬ via B t n a s0.1 k E b x) → JR B t n a s0 E (b + 1) (st.1, st.2.1, st.2.2.1, st.2.2.2.1, st.2.2.2.2.1, st.2.2.2.2.2) := by
    intro hno
    refine ⟨j1, j2, j3, fun k hk => (j4 k hk).iff (fun x => ?_)⟩
    constructor
    · rintro ⟨e', b', h1, h2⟩
      refine ⟨e', b', ?_, h2⟩
      rcases h1 with h1 | ⟨h1, h3⟩
      · exact Or.inl h1
      · by_cases hb : b' = b
        · subst h1
          subst hb
          exact absurd h2 (hno _ _)
        · exact Or.inr ⟨h1, by omega⟩
    · rintro ⟨e', b', h1, h2⟩
      refine ⟨e', b', ?_, h2⟩
      rcases h1 with h1 | ⟨h1, h3⟩
      · exact Or.inl h1
      · exact Or.inr ⟨h1, by omega⟩
  unfold m_X9_onePart
  refine wp_bind (q_rcost hB hW hn hT hab hbn hw ⟨he.1, by by_cases h : w = 60 <;> omega⟩ hwe e1 e5 eg eb) ?_
  intro c hc
  rw [eE] at hc
  by_cases hev : EV B E
  · have hcl := hc.1 hev
    have hkb := kd_bd hW hev
    have hcI : inI c := by
      rcases hcl with ⟨h1, _⟩ | ⟨h1, h2, _⟩
      · omega
      · have := CL_bd hB hW hev h2
        omega
    refine wp_gd hcI (wp_if (fun c1 => ?_) (fun c1 => ?_))
    · refine wp_some (hsame (fun k x hx => ?_))
      obtain ⟨c', h1, _⟩ := hx
      have := (hcl.le h1.2.2.2.1).2
      omega
    · have hmem := hcl.mem (by omega)
      have hcb := CL_bd hB hW hev hmem
      have hk := q_rkind (K := B 6) (w := w) (e := e) (by omega) he hwe
      rw [eE] at hk
      have hkk : 10 * x5 + kd (B 6) E = ((10 * b + (kd (B 6) E).toNat : Nat) : Int) := by omega
      have hkt : (10 * x5 + kd (B 6) E).toNat = 10 * b + (kd (B 6) E).toNat := by omega
      have hr0 : st.1 (10 * b + (kd (B 6) E).toNat) = s0.1 (10 * b + (kd (B 6) E).toNat) := j2 _ (by omega)
      refine wp_eq hk (wp_eq (show m_X9_at x5 (kd (B 6) E) = some (10 * x5 + kd (B 6) E) from rfl) ?_)
      rw [hkt, hr0]
      refine wp_gd (by omega) (wp_gd (hR.2 _) (wp_if (fun c2 => ?_) (fun c2 => ?_)))
      · refine wp_some (hsame (fun k x hx => ?_))
        obtain ⟨c', _, h2, _⟩ := hx
        omega
      · have hrb := hR.1 b (kd (B 6) E).toNat (by omega) hbn (by omega) (by omega)
        refine wp_bind (q_isAllowed hB hn hab hbn hF hFi (w := w) (e := e) (by omega) he hwe e1 e5 en em) ?_
        intro r hr
        rw [eE] at hr
        refine wp_gd (by omega) (wp_if (fun c3 => ?_) (fun c3 => ?_))
        · refine wp_some (hsame (fun k x hx => ?_))
          obtain ⟨c', h1, _⟩ := hx
          rcases hr with ⟨r1, _⟩ | ⟨_, r2⟩
          · omega
          · exact r2 h1.2.2.1
        · have hal : AL B n a b E := by
            rcases hr with ⟨_, r2⟩ | ⟨r1, _⟩
            · exact r2
            · omega
          have hpc : PC B t n a b E c := ⟨⟨hab, hbn⟩, hev, hal, hmem, fun x hx => (hcl.le hx).1⟩
          refine wp_eq hk (wp_eq (show m_X9_at x5 (kd (B 6) E) = some (10 * x5 + kd (B 6) E) from rfl) ?_)
          rw [hkt, hr0]
          refine wp_gd (by omega) (wp_vl (wp_gd (by omega) (wp_if (fun _ => ?_) (fun z => absurd rfl z))))
          obtain ⟨v, ev⟩ : ∃ v : Int, v = c + s0.1 (10 * b + (kd (B 6) E).toNat) := ⟨_, rfl⟩
          rw [← ev]
          refine wp_bind (P := fun u : Nat × Int × (Nat → Int) => (∀ i, 10 * (a + 1) ≤ i → u.2.2 i = st.1 i) ∧ (∀ i, inI (u.2.2 i)) ∧ ∀ k : Nat, k ≤ 9 → u.2.2 (10 * a + k) = min (st.1 (10 * a + k)) (v + stp B k (kd (B 6) E))) (wp_loop (fun k y => y.1 = (k : Int) ∧ (∀ i, 10 * (a + 1) ≤ i → y.2 i = st.1 i) ∧ (∀ i, inI (y.2 i)) ∧ (∀ k' : Nat, k' ≤ 9 → y.2 (10 * a + k') = if k' < k then min (st.1 (10 * a + k')) (v + stp B k' (kd (B 6) E)) else st.1 (10 * a + k'))) 10 (by omega) ⟨rfl, fun i _ => rfl, j3, fun k' _ => by rw [if_neg (by omega)]⟩ ?_) ?_
          · intro k y hk10 hs
            obtain ⟨a1, a2, a3, a4⟩ := hs
            unfold m_X9_onePart_77
            refine wp_gd (by omega) (wp_if (fun c4 => ?_) (fun c4 => ?_))
            · refine wp_end (by decide) ⟨a2, a3, fun k' hk' => ?_⟩
              have := a4 k' hk'
              rw [if_pos (by omega)] at this
              exact this
            · have hst := stp_bd hS (k := (k : Int)) (by omega) hkb
              refine wp_eq (show m_X9_at x1 y.1 = some (10 * x1 + y.1) from rfl) (wp_eq (show m_X9_at x1 y.1 = some (10 * x1 + y.1) from rfl) ?_)
              have et : (10 * x1 + y.1).toNat = 10 * a + k := by omega
              refine wp_gd (by omega) (wp_eq hk (wp_eq (q_stepOf hB (k := y.1) (by omega) hkb) ?_))
              rw [et, a1]
              have a5 := a4 k (by omega)
              rw [if_neg (by omega)] at a5
              refine wp_gd (a3 _) (wp_gd (by omega) (wp_gd (by omega) (wp_vl (wp_vl (wp_go ⟨by omega, by show (k : Int) + 1 = _; omega, fun i hi => ?_, ?_, fun k' hk' => ?_⟩)))))
              · show uz y.2 (10 * a + k) _ i = _
                rw [uz_ne _ _ (by omega)]
                exact a2 i hi
              · have := a3 (10 * a + k)
                exact uz_inI a3 (by omega)
              · show uz y.2 (10 * a + k) _ (10 * a + k') = _
                by_cases hkk' : k' = k
                · rw [hkk', uz_at, if_pos (by omega), a5]
                · rw [uz_ne _ _ (by omega), a4 k' hk']
                  by_cases h8 : k' < k
                  · rw [if_pos h8, if_pos (by omega)]
                  · rw [if_neg h8, if_neg (by omega)]
          · rintro ⟨t77, y8, re⟩ ⟨u1, u2, u3⟩
            have u1 : ∀ i, 10 * (a + 1) ≤ i → re i = st.1 i := u1
            have u3 : ∀ k : Nat, k ≤ 9 → re (10 * a + k) = min (st.1 (10 * a + k)) (v + stp B k (kd (B 6) E)) := u3
            refine wp_some ⟨j1, fun i hi => ?_, u2, fun k hk9 => ?_⟩
            · show re i = _
              rw [u1 i hi]
              exact j2 i hi
            · show Lst _ 134217728 (re (10 * a + k))
              rw [u3 k hk9]
              have hst := stp_bd hS (k := (k : Int)) (by omega) hkb
              refine (j4 k hk9).push (by omega) (fun x => ?_)
              constructor
              · rintro ⟨e', b', h1, h2⟩
                by_cases heq : e' = E ∧ b' = b
                · obtain ⟨rfl, rfl⟩ := heq
                  obtain ⟨c', h3, _, h5⟩ := h2
                  have := PC_one h3 hpc
                  exact Or.inr (by omega)
                · refine Or.inl ⟨e', b', ?_, h2⟩
                  unfold bfr at h1 ⊢
                  omega
              · rintro (⟨e', b', h1, h2⟩ | rfl)
                · refine ⟨e', b', ?_, h2⟩
                  unfold bfr at h1 ⊢
                  omega
                · exact ⟨E, b, Or.inr ⟨rfl, by omega⟩, c, hpc, by omega, by omega⟩
  · have hcN := hc.2 hev
    refine wp_gd (by omega) (wp_if (fun c1 => ?_) (fun c1 => absurd (by omega) c1))
    refine wp_some (hsame (fun k x hx => ?_))
    obtain ⟨c', h1, _⟩ := hx
    exact hev h1.2.1
