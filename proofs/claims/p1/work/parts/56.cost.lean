/-! what an entry costs over a stretch -/
def szf (b : Nat) (r : Int) : Nat → Nat → Nat
  | 0, k => k
  | f + 1, k => if pz b r k = 0 then k else szf b r f (k + 1)
def siz (b : Nat) (r : Int) : Nat := szf b r 6 0
theorem siz_of {b most : Nat} {top r : Int} {n : Nat} (hm : most ≤ 6) (h : isR b most top r n) : siz b r = n := by
  have key : ∀ f k, k ≤ n → n - k ≤ f → szf b r f k = n := by
    intro f
    induction f with
    | zero =>
      intro k h1 h2
      show k = n
      omega
    | succ f ih =>
      intro k h1 h2
      show (if pz b r k = 0 then k else szf b r f (k + 1)) = n
      by_cases hk : k = n
      · rw [if_pos (by rw [hk]; exact pz_none h.2.2.2.2 (Nat.le_refl n))]
        exact hk
      · have := (h.2.2.2.1 k (by omega)).1
        rw [if_neg (by omega)]
        exact ih (k + 1) (by omega) (by omega)
  have := h.2.1
  exact key 6 0 (Nat.zero_le _) (by omega)
def GW (B : Nat → Nat → Int) : Prop :=
  (0 ≤ B 18 0 ∧ B 18 0 ≤ 60) ∧ (0 ≤ B 18 1 ∧ B 18 1 ≤ 8) ∧
  (∀ w : Nat, (w : Int) < B 18 0 → (∃ n, isR 6 6 50 (B 4 w) n) ∧ (∃ n, isR 14 4 16383 (B 5 w) n) ∧ (0 ≤ B 6 w ∧ B 6 w ≤ 7) ∧ (-1 ≤ B 7 w ∧ B 7 w ≤ 5)) ∧
  (∀ e : Nat, (e : Int) < B 18 1 → (∃ n, isR 6 3 50 (B 9 e) n) ∧ (1 ≤ B 10 e ∧ B 10 e ≤ 16383) ∧ (0 ≤ B 11 e ∧ B 11 e ≤ 5) ∧ (0 ≤ B 12 e ∧ B 12 e ≤ 60)) ∧
  (∀ i, inL (B 4 i) ∧ inL (B 5 i) ∧ inL (B 9 i))
def EV (B : Nat → Nat → Int) (e : Int) : Prop := e = 540 ∨ (0 ≤ e ∧ e < 540 ∧ e / 9 < B 18 0 ∧ (e % 9 = 0 ∨ (e % 9 - 1 < B 18 1 ∧ B 11 (e % 9 - 1).toNat = B 7 (e / 9).toNat)))
def esd (B : Nat → Nat → Int) (e : Int) : List Nat := if e % 9 = 0 then [] else pfx (B 9 (e % 9 - 1).toNat) (siz 6 (B 9 (e % 9 - 1).toNat))
def sds (B : Nat → Nat → Int) (e : Int) : List Nat := pfx (B 4 (e / 9).toNat) (siz 6 (B 4 (e / 9).toNat)) ++ esd B e
def epr (B : Nat → Nat → Int) (e : Int) : Int := if e % 9 = 0 then 0 else B 12 (e % 9 - 1).toNat
def wct (B : Nat → Nat → Int) (w : Nat) : Int := B 13 2 - 8 * (bl (B 8 w) : Int)
def CL (B : Nat → Nat → Int) (t : Nat → Int) (e : Int) (a b : Nat) (x : Int) : Prop := if e = 540 then b = a + 1 ∧ x = B 13 1 else ∃ y, spR B t (sds B e) a b y ∧ x = wct B (e / 9).toNat + epr B e + y
theorem sds_ok {B : Nat → Nat → Int} (hW : GW B) {e : Int} (he : EV B e) (hn : e ≠ 540) : (∀ s ∈ sds B e, s < 50) ∧ (sds B e).length ≤ 9 ∧ (∀ s ∈ esd B e, s < 50) ∧ (esd B e).length ≤ 3 ∧ 0 ≤ epr B e ∧ epr B e ≤ 60 := by
  obtain ⟨_, _, h3, h4, _⟩ := hW
  rcases he with he | ⟨e0, e1, e2, e3⟩
  · exact absurd he hn
  · obtain ⟨⟨n, hw⟩, _⟩ := h3 (e / 9).toNat (by omega)
    have hsw := siz_of (by decide) hw
    have hwn := hw.2.1
    have hwlt := pfx_lt hw n (Nat.le_refl n)
    unfold sds esd epr
    rw [hsw]
    by_cases hm : e % 9 = 0
    · rw [if_pos hm, if_pos hm, List.append_nil]
      refine ⟨hwlt, ?_, fun s hs => absurd hs (List.not_mem_nil), by simp, by decide, by decide⟩
      rw [pfx_len]
      omega
    · rw [if_neg hm, if_neg hm]
      obtain ⟨⟨n2, hv⟩, _, _, hpr⟩ := h4 (e % 9 - 1).toNat (by omega)
      have hsv := siz_of (by decide) hv
      have hvn := hv.2.1
      have hvlt := pfx_lt hv n2 (Nat.le_refl n2)
      rw [hsv]
      refine ⟨fun s hs => (List.mem_append.mp hs).elim (hwlt s) (hvlt s), ?_, hvlt, ?_, hpr.1, hpr.2⟩
      · rw [List.length_append, pfx_len, pfx_len]
        omega
      · rw [pfx_len]
        omega
theorem CL_bd {B : Nat → Nat → Int} {t : Nat → Int} (hB : GB B) (hW : GW B) {e : Int} (he : EV B e) {a b : Nat} {x : Int} (h : CL B t e a b x) : -300 ≤ x ∧ x ≤ 3000 ∧ a ≤ b := by
  unfold CL at h
  by_cases hn : e = 540
  · rw [if_pos hn] at h
    have := hB.2.2.2.2 1 (by decide)
    omega
  · rw [if_neg hn] at h
    obtain ⟨y, h1, h2⟩ := h
    obtain ⟨g1, g2, _, _, g3, g4⟩ := sds_ok hW he hn
    have h3 := spR_bd hB _ g1 _ _ _ h1
    have h4 := hB.2.2.2.2 2 (by decide)
    have h5 := bl_le (B 8 (e / 9).toNat)
    unfold wct at h2
    omega
theorem WO_start {B : Nat → Nat → Int} {t now : Nat → Int} {b : Nat} {v : Int} (hv : v < 268435456) : WO B t (fun q z => q = b ∧ z = v) [] (uz now b v) b b := by
  intro p _
  have hS : ∀ x, wkS B t (fun q z => q = b ∧ z = v) [] p x ↔ (p = b ∧ x = v) := by
    intro x
    constructor
    · rintro ⟨q, y, z, ⟨h1, h2⟩, ⟨h3, h4⟩, h5⟩
      exact ⟨by omega, by omega⟩
    · rintro ⟨h1, h2⟩
      exact ⟨p, 0, v, ⟨rfl, rfl⟩, ⟨h1, rfl⟩, by omega⟩
  unfold vw
  by_cases h : p = b
  · rw [if_pos (by omega), h, uz_at]
    subst h
    exact Or.inr ⟨hv, (hS v).mpr ⟨rfl, rfl⟩, fun x hx => by have := ((hS x).mp hx).2; omega⟩
  · rw [if_neg (by omega)]
    exact Lst.none (fun x hx => h ((hS x).mp hx).1)
theorem q_foundAt {now : Nat → Int} {low high x : Int} {p : Nat} (hp : p ≤ 36) (e : x = p) (hl : 0 ≤ low ∧ low ≤ 36) (hh : -1 ≤ high ∧ high ≤ 36) : m_X6_foundAt x now low high = some (vw now low high p) := by
  refine wp_out ?_
  unfold m_X6_foundAt vw
  have ex : x.toNat = p := by omega
  refine wp_gd (by omega) (wp_gd (by omega) (wp_if (fun c1 => ?_) (fun c1 => ?_)))
  · refine wp_some ?_
    rw [if_neg (by omega)]
  · refine wp_gd (by omega) (wp_if (fun c2 => ?_) (fun c2 => ?_))
    · rw [ex]
      refine wp_gd (by omega) (wp_some ?_)
      rw [if_pos (by omega)]
    · refine wp_some ?_
      rw [if_neg (by omega)]
theorem q_costOf86 {B : Nat → Nat → Int} {t : Nat → Int} (hB : GB B) (hW : GW B) (ht : ∀ k, inI (t k)) {e : Int} (he : EV B e) (hn : e ≠ 540) {a b : Nat} (ha : a ≤ 36) (hb : b ≤ 36) {now next : Nat → Int} {low high : Int} (nA xA : Nat) (hO : WO B t (fun q z => q = b ∧ z = 16 * epr B e) (esd B e) now low high) (hok : spOk now next low high) {x2 x4 : Int} (e2 : x2 = a) (e4 : x4 = e / 9) :
    wp (m_X6_costOf_86 x2 x4 (B 0) (B 1) (B 2) (B 3) (B 4) (B 8) (B 9) (B 12) (B 13) t now nA next xA low high) (fun u => Lst (CL B t e a b) 268435456 u.1 ∧ spOk u.2.1 u.2.2.2.1 u.2.2.2.2.2.1 u.2.2.2.2.2.2) := by
  obtain ⟨g1, g2, g3, g4, g5, g6⟩ := sds_ok hW he hn
  have hZ : ∀ q z, (q = b ∧ z = 16 * epr B e) → 0 ≤ z ∧ z < 20000 ∧ q ≤ 36 := fun q z h => by omega
  have he' := he
  rcases he with he | ⟨e0, e1, e3, _⟩
  · exact absurd he hn
  obtain ⟨⟨n, hw⟩, _⟩ := hW.2.2.1 (e / 9).toNat (by omega)
  have hsw := siz_of (by decide) hw
  have hwn := hw.2.1
  have hW0 := hW.1
  have ew : x4.toNat = (e / 9).toNat := by omega
  unfold m_X6_costOf_86
  rw [ew]
  refine wp_gd (by omega) (wp_bind (q_walkBack hB ht hZ g3 (most := 6) (n := n) (Or.inl rfl) rfl hw (hW.2.2.2.2 _).1 (by omega) hO hok nA xA) ?_)
  rintro ⟨n1, n1A, n2, n2A, lo, hi⟩ ⟨w1, w2⟩
  have w1 : WO B t (fun q z => q = b ∧ z = 16 * epr B e) (pfx (B 4 (e / 9).toNat) n ++ esd B e) n1 lo hi := w1
  have w2 : spOk n1 n2 lo hi := w2
  obtain ⟨o1, o2, o3, o4, o5, o6⟩ := id w2
  have es : pfx (B 4 (e / 9).toNat) n ++ esd B e = sds B e := by unfold sds; rw [hsw]
  rw [es] at w1
  have hL := w1 a ha
  have hS : ∀ x, wkS B t (fun q z => q = b ∧ z = 16 * epr B e) (sds B e) a x ↔ ∃ y, spR B t (sds B e) a b y ∧ x = 16 * (epr B e + y) := by
    intro x
    constructor
    · rintro ⟨q, y, z, h1, ⟨h2, h3⟩, h4⟩
      subst h2
      exact ⟨y, h1, by omega⟩
    · rintro ⟨y, h1, h2⟩
      exact ⟨b, y, 16 * epr B e, h1, ⟨rfl, rfl⟩, by omega⟩
  refine wp_eq (q_foundAt ha e2 ⟨o3, o4⟩ ⟨o5, o6⟩) ?_
  have hCL : ∀ x, CL B t e a b x ↔ ∃ y, spR B t (sds B e) a b y ∧ x = wct B (e / 9).toNat + epr B e + y := by
    intro x
    unfold CL
    rw [if_neg hn]
  rcases hL with ⟨h1, h2⟩ | ⟨h1, h2, h3⟩
  · rw [h1]
    refine wp_gd (by decide) (wp_if (fun _ => wp_some ⟨?_, w2⟩) (fun z => absurd rfl z))
    refine Lst.none (fun x hx => ?_)
    obtain ⟨y, h4, _⟩ := (hCL x).mp hx
    exact h2 _ ((hS _).mpr ⟨y, h4, rfl⟩)
  · have hb2 := wkS_bd hB hZ g1 g2 h2
    obtain ⟨y, h4, h5⟩ := (hS _).mp h2
    have hc2 : inI (B 8 (e / 9).toNat) := hB.1 8 _ (by decide) (by decide) (by decide)
    have hbd := CL_bd hB hW he' ((hCL _).mpr ⟨y, h4, rfl⟩)
    refine wp_gd (by omega) (wp_if (fun z => absurd z (by omega)) (fun _ => ?_))
    refine wp_eq (q_wordCost (w := (e / 9).toNat) (by omega) hc2 (by omega)) (wp_some ⟨?_, w2⟩)
    show Lst (CL B t e a b) 268435456 (B 13 2 - 8 * (bl (B 8 (e / 9).toNat) : Int) + vw n1 lo hi a / 16)
    have e9 : B 13 2 - 8 * (bl (B 8 (e / 9).toNat) : Int) + vw n1 lo hi a / 16 = wct B (e / 9).toNat + epr B e + y := by
      rw [h5]
      unfold wct
      omega
    rw [e9]
    refine Or.inr ⟨by omega, (hCL _).mpr ⟨y, h4, rfl⟩, fun x hx => ?_⟩
    obtain ⟨y2, h6, h7⟩ := (hCL x).mp hx
    have h8 := h3 _ ((hS _).mpr ⟨y2, h6, rfl⟩)
    omega
set_option maxHeartbeats 1000000 in
theorem q_costOf {B : Nat → Nat → Int} {t : Nat → Int} (hB : GB B) (hW : GW B) (ht : ∀ k, inI (t k)) {e : Int} (he : EV B e) {a b : Nat} (ha : a ≤ 36) (hb : b ≤ 36) {now next : Nat → Int} {low high : Int} (nA xA : Nat) (hok : spOk now next low high) {x1 x2 x3 : Int} (e1 : x1 = e) (e2 : x2 = a) (e3 : x3 = b) :
    wp (m_X6_costOf x1 x2 x3 (B 0) (B 1) (B 2) (B 3) (B 4) (B 8) (B 9) (B 12) (B 13) t now nA next xA low high) (fun u => Lst (CL B t e a b) 268435456 u.1 ∧ spOk u.2.1 u.2.2.2.1 u.2.2.2.2.2.1 u.2.2.2.2.2.2) := by
  subst e1
  have heb : 0 ≤ x1 ∧ x1 ≤ 540 := by
    rcases he with he | he
    · omega
    · omega
  unfold m_X6_costOf
  refine wp_gd (by omega) (wp_if (fun c1 => ?_) (fun c1 => ?_))
  · have hpr := hB.2.2.2.2 1 (by decide)
    refine wp_gd (by omega) (wp_gd (by omega) (wp_if (fun c2 => ?_) (fun c2 => ?_)))
    · refine wp_some ⟨?_, hok⟩
      show Lst (CL B t x1 a b) 268435456 (B 13 1)
      refine Or.inr ⟨by omega, ?_, fun x hx => ?_⟩
      · unfold CL
        rw [if_pos c1]
        exact ⟨by omega, rfl⟩
      · unfold CL at hx
        rw [if_pos c1] at hx
        omega
    · refine wp_some ⟨Lst.none (fun x hx => ?_), hok⟩
      unfold CL at hx
      rw [if_pos c1] at hx
      omega
  · obtain ⟨g1, g2, g3, g4, g5, g6⟩ := sds_ok hW he c1
    have he' := he
    rcases he with he | ⟨d0, d1, d2, d3⟩
    · exact absurd he c1
    obtain ⟨o1, o2, o3, o4, o5, o6⟩ := hok
    have e3' : x3.toNat = b := by omega
    refine wp_eq (q_wordOf (by omega)) (wp_eq (q_endingOf (by omega)) ?_)
    unfold m_X6_startAt
    rw [e3']
    refine wp_bind (P := fun u : (Nat → Int) × Int × Int => u = (uz now b 0, x3, x3)) (wp_gd (by omega) (wp_vl (wp_some rfl))) ?_
    rintro u rfl
    refine wp_gd (by omega) (wp_if (fun c2 => ?_) (fun c2 => ?_))
    · have hm : x1 % 9 = 0 := by omega
      have ee : esd B x1 = [] := by unfold esd; rw [if_pos hm]
      have ep : epr B x1 = 0 := by unfold epr; rw [if_pos hm]
      refine q_costOf86 hB hW ht he' c1 ha hb nA xA ?_ ⟨uz_inI o1 (by decide), o2, by omega, by omega, by omega, by omega⟩ e2 rfl
      rw [ee, ep, e3]
      exact WO_start (by decide)
    · have hm : x1 % 9 ≠ 0 := by omega
      have d4 : x1 % 9 - 1 < B 18 1 := by
        rcases d3 with d3 | d3
        · exact absurd d3 hm
        · exact d3.1
      obtain ⟨⟨n2, hv⟩, _, _, hpr⟩ := hW.2.2.2.1 (x1 % 9 - 1).toNat (by omega)
      have hE := hW.2.1
      have hsv := siz_of (by decide) hv
      have hvn := hv.2.1
      have ee : esd B x1 = pfx (B 9 (x1 % 9 - 1).toNat) n2 := by unfold esd; rw [if_neg hm, hsv]
      have ep : epr B x1 = B 12 (x1 % 9 - 1).toNat := by unfold epr; rw [if_neg hm]
      refine wp_gd (by omega) (wp_gd (by omega) (wp_vl (wp_gd (by omega) ?_)))
      have hok2 : spOk (uz (uz now b 0) b (B 12 (x1 % 9 - 1).toNat * 16)) next x3 x3 := ⟨uz_inI (uz_inI o1 (by decide)) (by omega), o2, by omega, by omega, by omega, by omega⟩
      have hZ : ∀ q z, (q = b ∧ z = 16 * epr B x1) → 0 ≤ z ∧ z < 20000 ∧ q ≤ 36 := fun q z h => by omega
      have h0 : WO B t (fun q z => q = b ∧ z = 16 * epr B x1) [] (uz (uz now b 0) b (B 12 (x1 % 9 - 1).toNat * 16)) x3 x3 := by
        rw [e3, show B 12 (x1 % 9 - 1).toNat * 16 = 16 * epr B x1 by omega]
        exact WO_start (by omega)
      refine wp_bind (q_walkBack hB ht hZ (fun s hs => absurd hs List.not_mem_nil) (most := 3) (n := n2) (Or.inr rfl) rfl hv (hW.2.2.2.2 _).2.2 (by simp; omega) h0 hok2 nA xA) ?_
      rintro ⟨n1, n1A, nx, nxA, lo, hi⟩ ⟨w1, w2⟩
      refine q_costOf86 hB hW ht he' c1 ha hb n1A nxA ?_ w2 e2 rfl
      rw [ee]
      rw [List.append_nil] at w1
      exact w1
