/-! a column of least values -/
theorem Lst.map {S S' : Int → Prop} {far far' v : Int} (f : Int → Int) (hm : ∀ x y, x ≤ y → f x ≤ f y) (hS : ∀ X, S' X ↔ ∃ x, S x ∧ X = f x) (hf : ∀ x, S x → f x < far') (h : Lst S far v) : Lst S' far' (if v = far then far' else f v) := by
  rcases h with ⟨h1, h2⟩ | ⟨h1, h2, h3⟩
  · rw [if_pos h1]
    refine Lst.none (fun X hX => ?_)
    obtain ⟨x, hx, _⟩ := (hS X).mp hX
    exact h2 x hx
  · rw [if_neg (by omega)]
    refine Or.inr ⟨hf v h2, (hS _).mpr ⟨v, h2, rfl⟩, fun X hX => ?_⟩
    obtain ⟨x, hx, e⟩ := (hS X).mp hX
    rw [e]
    exact hm _ _ (h3 x hx)
/-- the place of a stretch's values -/
def ix (a b k : Nat) : Nat := (b * (b - 1) / 2 + a) * 9 + k
/-- values of the parts of a kind over a stretch, of the guess and of the first w words -/
def VS (B : Nat → Nat → Int) (t : Nat → Int) (w a b k : Nat) (x : Int) : Prop := ∃ e : Nat, EV B e ∧ (e = 540 ∨ e / 9 < w) ∧ kd (B 6) e = k ∧ ∃ c, CL B t e a b c ∧ x = 1024 * c + e
def COL (B : Nat → Nat → Int) (t : Nat → Int) (w b : Nat) (vals : Nat → Int) : Prop := ∀ a k : Nat, a < b → k ≤ 8 → Lst (VS B t w a b k) 2147483647 (vals (ix a b k))
def pk (B : Nat → Nat → Int) (w : Nat) (v : Int) : Int := if v = 268435456 then 2147483647 else (wct B w + v / 16) * 1024 + (w * 9 + v % 16)
theorem pk_word {B : Nat → Nat → Int} {t : Nat → Int} (hB : GB B) (hW : GW B) {b w : Nat} (hw : (w : Int) < B 18 0) {a : Nat} {v : Int} (h : Lst (wkS B t (ZW B t b w) (pfx (B 4 w) (siz 6 (B 4 w))) a) 268435456 v) : Lst (fun x => ∃ e : Nat, EV B e ∧ e < 540 ∧ e / 9 = w ∧ ∃ c, CL B t e a b c ∧ x = 1024 * c + e) 2147483647 (pk B w v) := by
  have hW0 := hW.1
  refine Lst.map (fun v => (wct B w + v / 16) * 1024 + (w * 9 + v % 16)) (fun x y hxy => ?_) (fun X => ?_) (fun x hx => ?_) h
  · show (wct B w + x / 16) * 1024 + (w * 9 + x % 16) ≤ (wct B w + y / 16) * 1024 + (w * 9 + y % 16)
    omega
  · constructor
    · rintro ⟨e, h1, h2, h3, c, h4, h5⟩
      refine ⟨16 * (c - wct B w) + ((e % 9 : Nat) : Int), (ZW_CL hW hw).mpr ⟨e, h1, h2, h3, c, h4, rfl⟩, ?_⟩
      show X = _
      omega
    · rintro ⟨x, h1, h2⟩
      obtain ⟨e, g1, g2, g3, c, g4, g5⟩ := (ZW_CL hW hw).mp h1
      have h2 : X = (wct B w + x / 16) * 1024 + (w * 9 + x % 16) := h2
      exact ⟨e, g1, g2, g3, c, g4, by omega⟩
  · obtain ⟨e, g1, g2, g3, c, g4, g5⟩ := (ZW_CL hW hw).mp hx
    have := CL_bd hB hW g1 g4
    show (wct B w + x / 16) * 1024 + (w * 9 + x % 16) < 2147483647
    omega
theorem ix_lt {a b k : Nat} (hb : b ≤ 36) (ha : a < b) (hk : k ≤ 8) : ix a b k < 5994 := by
  unfold ix
  have h1 : b * (b - 1) ≤ 36 * 35 := Nat.mul_le_mul hb (by omega)
  by_cases h : b = 36
  · subst h
    omega
  · have h2 : b * (b - 1) ≤ 35 * 34 := Nat.mul_le_mul (by omega) (by omega)
    omega
set_option maxHeartbeats 2000000 in
theorem q_enter {B : Nat → Nat → Int} {t : Nat → Int} (hB : GB B) (hW : GW B) {b w : Nat} (hb : b ≤ 36) (hw : (w : Int) < B 18 0) {now vals : Nat → Int} {low high : Int} (hl : 0 ≤ low ∧ low ≤ 36) (hh : -1 ≤ high ∧ high ≤ 36) (hN : ∀ i, inI (now i)) (hV : ∀ i, inI (vals i)) (hO : WO B t (ZW B t b w) (pfx (B 4 w) (siz 6 (B 4 w))) now low high) {x1 x2 : Int} {K : Nat} (hK : B 6 w = K) (e1 : x1 = w) (e2 : x2 = ((ix 0 b K : Nat) : Int)) :
    wp (m_X5_enter x1 x2 (B 8) (B 13) vals now low high) (fun u => (∀ a k : Nat, a < b → k ≤ 8 → u (ix a b k) = if k = K then min (vals (ix a b k)) (pk B w (vw now low high a)) else vals (ix a b k)) ∧ (∀ i, (i < ix 0 b 0 ∨ ix 0 b 0 + 9 * b ≤ i) → u i = vals i) ∧ ∀ i, inI (u i)) := by
  have hW0 := hW.1
  obtain ⟨⟨n, hwr⟩, _, hwk, _⟩ := hW.2.2.1 w hw
  have hsw := siz_of (by decide) hwr
  have hn1 := hwr.1
  have hn2 := hwr.2.1
  have hlt := pfx_lt hwr n (Nat.le_refl n)
  have hZ := ZW_bd (t := t) hB hW (w := w) hb
  have hfar : ∀ p : Nat, p ≤ 36 → vw now low high p ≠ 268435456 → p < b ∧ 0 ≤ vw now low high p ∧ vw now low high p < 60000 := by
    intro p hp hne
    have h1 := (hO p hp).mem hne
    rw [hsw] at h1
    have h2 := wkS_bd hB hZ hlt (by rw [pfx_len]; omega) h1
    obtain ⟨q, y, z, g1, g2, g3⟩ := h1
    have g4 := spR_lt hB hlt (by rw [pfx_len]; omega) g1
    have g5 : q ≤ b := by
      rcases g2 with ⟨h, _⟩ | ⟨_, h⟩
      · omega
      · have := SD_in hB hW hb (by have := hW.2.1; omega) h
        omega
    exact ⟨by omega, h2.1, h2.2.1⟩
  have hwc : -300 ≤ wct B w ∧ wct B w ≤ 200 := by
    have h4 := hB.2.2.2.2 2 (by decide)
    have h5 := bl_le (B 8 w)
    unfold wct
    omega
  unfold m_X5_enter
  refine wp_eq (q_wordCost (w := w) (by omega) (hB.1 8 _ (by decide) (by decide) (by decide)) e1) ?_
  show wp ((zloop (fun a => m_X5_enter_18 x1 x2 (wct B w) a.1 (B 8) (B 13) a.2 now low high) FU (low, vals)).bind _) _
  refine wp_bind (P := fun u : Nat × Int × (Nat → Int) => (∀ a k : Nat, a < b → k ≤ 8 → u.2.2 (ix a b k) = if k = K then min (vals (ix a b k)) (pk B w (vw now low high a)) else vals (ix a b k)) ∧ (∀ i, (i < ix 0 b 0 ∨ ix 0 b 0 + 9 * b ≤ i) → u.2.2 i = vals i) ∧ ∀ i, inI (u.2.2 i)) (wp_loop (fun j d => d.1 = low + j ∧ (∀ a k : Nat, a < b → k ≤ 8 → d.2 (ix a b k) = if k = K ∧ (a : Int) < low + j then min (vals (ix a b k)) (pk B w (vw now low high a)) else vals (ix a b k)) ∧ (∀ i, (i < ix 0 b 0 ∨ ix 0 b 0 + 9 * b ≤ i) → d.2 i = vals i) ∧ ∀ i, inI (d.2 i)) (high - low + 1).toNat (by omega) ⟨by show low = _; omega, fun a k ha hk => ?_, fun i _ => rfl, hV⟩ ?_) ?_
  · show vals (ix a b k) = _
    by_cases h : k = K ∧ (a : Int) < low + (0 : Nat)
    · rw [if_pos h]
      have hv : vw now low high a = 268435456 := by
        unfold vw
        rw [if_neg (by omega)]
      unfold pk
      rw [if_pos hv]
      have := hV (ix a b k)
      omega
    · rw [if_neg h]
  · intro j d hj hs
    obtain ⟨d1, d2, d3, d4⟩ := hs
    unfold m_X5_enter_18
    refine wp_gd (by omega) (wp_gd (by omega) (wp_if (fun c1 => ?_) (fun c1 => ?_)))
    · refine wp_end (by decide) ⟨fun a k ha hk => ?_, d3, d4⟩
      show d.2 (ix a b k) = _
      rw [d2 a k ha hk]
      by_cases h : k = K
      · rw [if_pos h]
        by_cases h3 : (a : Int) < low + j
        · rw [if_pos ⟨h, h3⟩]
        · rw [if_neg (fun z => h3 z.2)]
          have hv : vw now low high a = 268435456 := by
            unfold vw
            rw [if_neg (by omega)]
          unfold pk
          rw [if_pos hv]
          have := hV (ix a b k)
          omega
      · rw [if_neg h, if_neg (fun z => h z.1)]
    · obtain ⟨P, eP⟩ : ∃ P : Nat, d.1 = P := ⟨d.1.toNat, by omega⟩
      have e6 : d.1.toNat = P := by omega
      have hvP : vw now low high P = now P := by
        unfold vw
        rw [if_pos (by omega)]
      have hP36 : P ≤ 36 := by omega
      rw [e6]
      refine wp_gd (by omega) (wp_vl (wp_gd (hN _) (wp_if (fun c2 => ?_) (fun c2 => ?_))))
      · refine wp_vl (wp_go ⟨by omega, by show d.1 + 1 = _; omega, fun a k ha hk => ?_, d3, d4⟩)
        show d.2 (ix a b k) = _
        rw [d2 a k ha hk]
        by_cases h : k = K ∧ (a : Int) < low + j
        · rw [if_pos h, if_pos (by omega)]
        · rw [if_neg h]
          by_cases h3 : k = K ∧ (a : Int) < low + ((j + 1 : Nat) : Int)
          · rw [if_pos h3]
            have haP : a = P := by omega
            have hv : vw now low high a = 268435456 := by rw [haP, hvP]; exact c2
            unfold pk
            rw [if_pos hv]
            have := hV (ix a b k)
            omega
          · rw [if_neg h3]
      · have hf := hfar P hP36 (by rw [hvP]; exact c2)
        rw [hvP] at hf
        have hpk : (wct B w + now P / 16) * 1024 + (x1 * 9 + now P % 16) = pk B w (vw now low high P) := by
          unfold pk
          rw [hvP, if_neg c2, e1]
        have hixP := ix_lt (a := P) (b := b) (k := K) hb hf.1 (by omega)
        have hix : (x2 + d.1 * 9).toNat = ix P b K := by
          rw [e2, eP]
          unfold ix
          omega
        have hixI : x2 + d.1 * 9 = ((ix P b K : Nat) : Int) := by
          rw [e2, eP]
          unfold ix
          omega
        refine wp_vl (wp_vl (wp_vl ?_))
        rw [hix, hixI, hpk]
        have hpI : inI (pk B w (vw now low high P)) := by
          rw [← hpk]
          omega
        have hd4 := d4 (ix P b K)
        refine wp_gd (by omega) (wp_gd hd4 (wp_gd hpI (wp_gd (by omega) (wp_vl (wp_vl (wp_go ⟨by omega, by show d.1 + 1 = _; omega, fun a k ha hk => ?_, fun i hi => ?_, uz_inI d4 (by omega)⟩))))))
        · show uz d.2 (ix P b K) _ (ix a b k) = _
          by_cases h : k = K ∧ a = P
          · obtain ⟨rfl, rfl⟩ := h
            rw [uz_at, if_pos ⟨rfl, by omega⟩, d2 a k ha hk, if_neg (by omega)]
          · have hne : ix a b k ≠ ix P b K := by
              unfold ix
              omega
            rw [uz_ne _ _ hne, d2 a k ha hk]
            by_cases h3 : k = K ∧ (a : Int) < low + j
            · rw [if_pos h3, if_pos (by omega)]
            · rw [if_neg h3, if_neg (by omega)]
        · show uz d.2 (ix P b K) _ i = _
          have hne : i ≠ ix P b K := by
            unfold ix at hi ⊢
            omega
          rw [uz_ne _ _ hne]
          exact d3 i hi
  · rintro ⟨t18, y4, vv⟩ hu
    exact wp_some hu
