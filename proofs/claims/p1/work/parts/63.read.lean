/-! the reference's reading -/
/-- the same, of any row of rests and any number that stands for none -/
def viaG (B : Nat → Nat → Int) (t : Nat → Int) (n a : Nat) (R : Nat → Nat → Int) (far : Int) (k : Int) (e b : Nat) (x : Int) : Prop := ∃ c, PC B t n a b e c ∧ R b (kd (B 6) e).toNat < far ∧ x = c + R b (kd (B 6) e).toNat + stp B k (kd (B 6) e)
theorem via_G {B : Nat → Nat → Int} {t : Nat → Int} {n a : Nat} {rest : Nat → Int} {k : Int} {e b : Nat} {x : Int} : via B t n a rest k e b x ↔ viaG B t n a (fun b k => rest (10 * b + k)) 134217728 k e b x := Iff.rfl
theorem via_in {B : Nat → Nat → Int} {t : Nat → Int} {n a : Nat} {rest : Nat → Int} {k : Int} {e b : Nat} {x : Int} (h : via B t n a rest k e b x) : a < b ∧ b ≤ n ∧ EV B e ∧ e ≤ 540 := by
  obtain ⟨c, h1, _⟩ := h
  refine ⟨h1.1.1, h1.1.2, h1.2.1, ?_⟩
  rcases h1.2.1 with z | z
  · omega
  · omega
/-- each least rest from lo on is right -/
def BR (B : Nat → Nat → Int) (t : Nat → Int) (n lo : Nat) (rest : Nat → Int) : Prop := (∀ k : Nat, k ≤ 9 → rest (10 * n + k) = 0) ∧ RB n lo rest ∧ ∀ a : Nat, lo ≤ a → a < n → ∀ k : Nat, k ≤ 9 → Lst (fun x => ∃ e b, via B t n a rest k e b x) 134217728 (rest (10 * a + k))
theorem via_congr {B : Nat → Nat → Int} {t : Nat → Int} {n a : Nat} {f g : Nat → Int} (h : ∀ i, 10 * (a + 1) ≤ i → g i = f i) {k : Int} {e b : Nat} {x : Int} : via B t n a g k e b x ↔ via B t n a f k e b x := by
  constructor
  · rintro ⟨c, h1, h2, h3⟩
    have := h1.1.1
    rw [h _ (by omega)] at h2 h3
    exact ⟨c, h1, h2, h3⟩
  · rintro ⟨c, h1, h2, h3⟩
    have := h1.1.1
    rw [← h _ (by omega)] at h2 h3
    exact ⟨c, h1, h2, h3⟩
theorem via_bd {B : Nat → Nat → Int} {t : Nat → Int} (hB : GB B) (hW : GW B) (hS : GS B) {n a : Nat} {rest : Nat → Int} (hR : RB n (a + 1) rest) {k : Int} (hk : 0 ≤ k ∧ k ≤ 9) {e b : Nat} {x : Int} (h : via B t n a rest k e b x) : -(4000 * ((n : Int) - a)) ≤ x ∧ x ≤ 4000 * ((n : Int) - a) := by
  obtain ⟨c, h1, h2, h3⟩ := h
  have hc := CL_bd hB hW h1.2.1 h1.2.2.2.1
  have hkb := kd_bd hW h1.2.1
  have hs := stp_bd hS hk hkb
  have h4 := h1.1.1
  have h5 := hR.1 b (kd (B 6) e).toNat (by omega) h1.1.2 (by omega) h2
  omega
set_option maxHeartbeats 2000000 in
theorem q_each0 {B : Nat → Nat → Int} {t : Nat → Int} (hB : GB B) (hW : GW B) (hS : GS B) {n fm a : Nat} (hn : n ≤ 36) (ha : a < n) {fF fT fW fE tb : Nat → Int} (hT : TBL B t n (540 * n) tb) (hF : FX B n fm fF fT fW fE) (hFi : ∀ i, inI (fF i) ∧ inI (fT i) ∧ inI (fW i) ∧ inI (fE i)) {s0 : st6} (hR : BR B t n (a + 1) s0.1) (hN : ∀ k : Nat, k ≤ 9 → s0.1 (10 * a + k) = 134217728) {x1 gu ba nn mm pa f0 k0 : Int} (e1 : x1 = a) (eg : gu = B 13 1) (eb : ba = B 13 2) (en : nn = n) (em : mm = fm) :
    wp (m_X9_eachFrom x1 0 (B 6) (B 7) (B 8) (B 11) (B 12) (B 18 0) (B 18 1) gu ba (B 14) (B 15) nn mm (B 17) fF fT fW fE tb s0.1 pa s0.2.1 s0.2.2.1 s0.2.2.2.1 s0.2.2.2.2.1 s0.2.2.2.2.2 f0 k0) (fun u => BR B t n a u.1 ∧ u.2 = s0.2) := by
  refine wp_mono (q_eachFrom hW hn ha (JR B t n a s0) e1 en ?_ ?_ ?_ s0 ?_) ?_
  · intro w e b x5 st hw he he2 hwe hab hbn e5 hJ
    exact q_onePart0 hB hW hS hn hab hbn hT hF hFi hR.2.1 hw he he2 hwe e1 e5 eg eb en em hJ
  · rintro ent st ⟨j1, j2, j3, j4⟩
    refine ⟨j1, j2, j3, fun k hk => (j4 k hk).iff (fun x => ?_)⟩
    constructor
    · rintro ⟨e, b, h1, h2⟩
      have h3 := via_in h2
      refine ⟨e, b, ?_, h2⟩
      unfold bfr at h1 ⊢
      omega
    · rintro ⟨e, b, h1, h2⟩
      have h3 := via_in h2
      refine ⟨e, b, ?_, h2⟩
      unfold bfr at h1 ⊢
      omega
  · rintro ent ent' st hle hno ⟨j1, j2, j3, j4⟩
    refine ⟨j1, j2, j3, fun k hk => (j4 k hk).iff (fun x => ?_)⟩
    constructor
    · rintro ⟨e, b, h1, h2⟩
      have h3 := via_in h2
      refine ⟨e, b, ?_, h2⟩
      by_cases h4 : e < ent
      · exact Or.inl h4
      · by_cases h5 : e < ent'
        · exact absurd h3.2.2.1 (hno e (by omega) h5)
        · unfold bfr at h1 ⊢
          omega
    · rintro ⟨e, b, h1, h2⟩
      have h3 := via_in h2
      refine ⟨e, b, ?_, h2⟩
      unfold bfr at h1 ⊢
      omega
  · refine ⟨rfl, fun i _ => rfl, hR.2.1.2, fun k hk => ?_⟩
    rw [hN k hk]
    refine Lst.none ?_
    rintro x ⟨e, b, h1, h2⟩
    have h3 := via_in h2
    unfold bfr at h1
    omega
  · rintro u ⟨j1, j2, j3, j4⟩
    obtain ⟨r1, r2, r3⟩ := hR
    have hall : ∀ k : Nat, k ≤ 9 → Lst (fun x => ∃ e b, via B t n a u.1 k e b x) 134217728 (u.1 (10 * a + k)) := by
      intro k hk
      refine (j4 k hk).iff (fun x => ?_)
      constructor
      · rintro ⟨e, b, h2⟩
        have h3 := (via_congr (fun i hi => j2 i hi)).mp h2
        have h4 := via_in h3
        exact ⟨e, b, Or.inl (by omega), h3⟩
      · rintro ⟨e, b, _, h2⟩
        exact ⟨e, b, (via_congr (fun i hi => j2 i hi)).mpr h2⟩
    refine ⟨⟨fun k hk => ?_, ⟨fun b k hb hbn hk hlt => ?_, j3⟩, fun a' h1 h2 k hk => ?_⟩, j1⟩
    · rw [j2 _ (by omega)]
      exact r1 k hk
    · by_cases hba : b = a
      · subst hba
        obtain ⟨e, b', h5⟩ := (hall k hk).mem (by omega)
        have h6 := (via_congr (fun i hi => j2 i hi)).mp h5
        exact via_bd hB hW hS r2 (by omega) h6
      · rw [j2 _ (by omega)] at hlt ⊢
        exact r2.1 b k (by omega) hbn hk hlt
    · by_cases haa : a' = a
      · subst haa
        exact hall k hk
      · rw [j2 _ (by omega)]
        refine (r3 a' (by omega) h2 k hk).iff (fun x => ?_)
        constructor
        · rintro ⟨e, b, h5⟩
          exact ⟨e, b, (via_congr (fun i hi => j2 i (by omega))).mp h5⟩
        · rintro ⟨e, b, h5⟩
          exact ⟨e, b, (via_congr (fun i hi => j2 i (by omega))).mpr h5⟩
/-- the first of the parts with which the rest costs what is wanted -/
def FM (B : Nat → Nat → Int) (t : Nat → Int) (n a : Nat) (rest : Nat → Int) (k wanted : Int) (e b : Nat) : Prop := via B t n a rest k e b wanted ∧ ∀ e' b', bfr e b e' b' → ¬ via B t n a rest k e' b' wanted
set_option maxHeartbeats 2000000 in
theorem q_each1 {B : Nat → Nat → Int} {t : Nat → Int} (hB : GB B) (hW : GW B) (hS : GS B) {n fm a : Nat} (hn : n ≤ 36) (ha : a < n) {fF fT fW fE tb : Nat → Int} (hT : TBL B t n (540 * n) tb) (hF : FX B n fm fF fT fW fE) (hFi : ∀ i, inI (fF i) ∧ inI (fT i) ∧ inI (fW i) ∧ inI (fE i)) {s0 : st6} (hR : BR B t n 0 s0.1) (hf0 : s0.2.2.2.2.2 = 0) {x1 gu ba nn mm pa f0 k0 : Int} {P K : Nat} (e1 : x1 = a) (eg : gu = B 13 1) (eb : ba = B 13 2) (en : nn = n) (em : mm = fm) (ep : pa = P) (hP : P < 36) (ef : f0 = a) (ek0 : k0 = K) (hK : K ≤ 9) (hlt : s0.1 (10 * a + K) < 134217728) :
    wp (m_X9_eachFrom x1 1 (B 6) (B 7) (B 8) (B 11) (B 12) (B 18 0) (B 18 1) gu ba (B 14) (B 15) nn mm (B 17) fF fT fW fE tb s0.1 pa s0.2.1 s0.2.2.1 s0.2.2.2.1 s0.2.2.2.2.1 s0.2.2.2.2.2 f0 k0) (fun u => u.1 = s0.1 ∧ ∃ e b : Nat, FM B t n a s0.1 K (s0.1 (10 * a + K)) e b ∧ u.2.1 = uz s0.2.1 P a ∧ u.2.2.1 = uz s0.2.2.1 P b ∧ u.2.2.2.1 = uz s0.2.2.2.1 P ((e : Int) / 9) ∧ u.2.2.2.2.1 = uz s0.2.2.2.2.1 P ((e : Int) % 9 - 1)) := by
  have hRB : RB n a s0.1 := ⟨fun b k h1 h2 h3 h4 => hR.2.1.1 b k (by omega) h2 h3 h4, hR.2.1.2⟩
  refine wp_mono (q_eachFrom hW hn ha (JF B t n a k0 (s0.1 (10 * a + K)) P s0) e1 en ?_ ?_ ?_ s0 ?_) ?_
  · intro w e b x5 st hw he he2 hwe hab hbn e5 hJ
    exact q_onePart1 hB hW hS hn hab hbn hT hF hFi hRB hw he he2 hwe e1 e5 eg eb en em ep hP ef ek0 hK hJ
  · intro ent st hJ
    have key : ∀ e b, mtc B t n a s0.1 k0 (s0.1 (10 * a + K)) e b → (bfr ent (n + 1) e b ↔ bfr (ent + 1) (a + 1) e b) := by
      intro e b h2
      have h3 := via_in h2
      unfold bfr
      omega
    refine ⟨hJ.1, ?_⟩
    rcases hJ.2 with ⟨a1, a2, a3, a4, a5, a6⟩ | ⟨a1, e, b, a2, a3, a4⟩
    · exact Or.inl ⟨a1, a2, a3, a4, a5, fun e b hb hm => a6 e b ((key e b hm).mpr hb) hm⟩
    · exact Or.inr ⟨a1, e, b, (key e b a3).mp a2, a3, a4⟩
  · intro ent ent' st hle hno hJ
    have key : ∀ e b, mtc B t n a s0.1 k0 (s0.1 (10 * a + K)) e b → (bfr ent (a + 1) e b ↔ bfr ent' (a + 1) e b) := by
      intro e b h2
      have h3 := via_in h2
      constructor
      · intro h
        unfold bfr at h ⊢
        omega
      · intro h
        by_cases h4 : e < ent
        · exact Or.inl h4
        · by_cases h5 : e < ent'
          · exact absurd h3.2.2.1 (hno e (by omega) h5)
          · unfold bfr at h
            omega
    refine ⟨hJ.1, ?_⟩
    rcases hJ.2 with ⟨a1, a2, a3, a4, a5, a6⟩ | ⟨a1, e, b, a2, a3, a4⟩
    · exact Or.inl ⟨a1, a2, a3, a4, a5, fun e b hb hm => a6 e b ((key e b hm).mpr hb) hm⟩
    · exact Or.inr ⟨a1, e, b, (key e b a3).mp a2, a3, a4⟩
  · refine ⟨rfl, Or.inl ⟨hf0, rfl, rfl, rfl, rfl, fun e b hb hm => ?_⟩⟩
    have h3 := via_in hm
    unfold bfr at hb
    omega
  · rintro u ⟨j1, j2⟩
    refine ⟨j1, ?_⟩
    rcases j2 with ⟨a1, a2, a3, a4, a5, a6⟩ | ⟨a1, e, b, a2, a3, a4, a5, a6, a7, a8⟩
    · obtain ⟨e, b, h5⟩ := (hR.2.2 a (Nat.zero_le _) ha K hK).mem (by omega)
      have h6 := via_in h5
      rw [← ek0] at h5
      exact absurd h5 (a6 e b (Or.inl (by omega)))
    · rw [ek0] at a3 a4
      exact ⟨e, b, ⟨a3, a4⟩, a5, a6, a7, a8⟩
