/-! the columns of least values -/
def ZW (B : Nat → Nat → Int) (t : Nat → Int) (b w : Nat) (q : Nat) (z : Int) : Prop := (q = b ∧ z = 0) ∨ (B 7 w ≠ -1 ∧ SD B t b (B 18 1).toNat (B 7 w) q z)
theorem ZW_bd {B : Nat → Nat → Int} {t : Nat → Int} (hB : GB B) (hW : GW B) {b w : Nat} (hb : b ≤ 36) : ∀ q z, ZW B t b w q z → 0 ≤ z ∧ z < 20000 ∧ q ≤ 36 := by
  have hE := hW.2.1
  rintro q z (⟨h1, h2⟩ | ⟨_, h2⟩)
  · omega
  · have := SD_in hB hW hb (by omega) h2
    omega
/-- what a word with or without an ending costs over a stretch, as the walk knows it -/
theorem ZW_CL {B : Nat → Nat → Int} {t : Nat → Int} (hW : GW B) {b w : Nat} (hw : (w : Int) < B 18 0) {p : Nat} {x : Int} : wkS B t (ZW B t b w) (pfx (B 4 w) (siz 6 (B 4 w))) p x ↔ ∃ e : Nat, EV B e ∧ e < 540 ∧ e / 9 = w ∧ ∃ c, CL B t e p b c ∧ x = 16 * (c - wct B w) + ((e % 9 : Nat) : Int) := by
  have hW0 := hW.1
  have hE := hW.2.1
  constructor
  · rintro ⟨q, y, z, h1, h2, h3⟩
    rcases h2 with ⟨rfl, rfl⟩ | ⟨hc, e, h4, h5, q2, y2, z2, h6, ⟨h7, h8⟩, h9⟩
    · refine ⟨9 * w, Or.inr ⟨by omega, by omega, by omega, Or.inl (by omega)⟩, by omega, by omega, wct B w + 0 + y, ?_, by omega⟩
      rw [CL_of (by omega)]
      refine ⟨y, ?_, ?_⟩
      · unfold sds esd
        rw [if_pos (by omega), List.append_nil, show (((9 * w : Nat) : Int) / 9).toNat = w by omega]
        exact h1
      · unfold epr
        rw [if_pos (by omega), show (((9 * w : Nat) : Int) / 9).toNat = w by omega]
    · have q1 : (((9 * w + (e + 1) : Nat) : Int) % 9 - 1).toNat = e := by omega
      have q3 : (((9 * w + (e + 1) : Nat) : Int) / 9).toNat = w := by omega
      refine ⟨9 * w + (e + 1), Or.inr ⟨by omega, by omega, by omega, Or.inr ⟨by omega, by rw [q1, q3]; exact h5⟩⟩, by omega, by omega, wct B w + B 12 e + (y + y2), ?_, by omega⟩
      rw [CL_of (by omega)]
      refine ⟨y + y2, ?_, ?_⟩
      · unfold sds esd
        rw [if_neg (by omega), q1, q3]
        subst h7
        exact (spR_app _ _ _ _ _).mpr ⟨q, y, y2, h1, h6, rfl⟩
      · unfold epr
        rw [if_neg (by omega), q1, q3]
  · rintro ⟨e, h1, h2, h3, c, h4, h5⟩
    rw [CL_of (by omega)] at h4
    obtain ⟨y, g1, g2⟩ := h4
    have q3 : ((e : Int) / 9).toNat = w := by omega
    rw [q3] at g2
    rcases h1 with h1 | ⟨_, _, _, h6⟩
    · omega
    · by_cases h8 : (e : Int) % 9 = 0
      · have h6 := h8
        unfold sds esd at g1
        unfold epr at g2
        rw [if_pos h6, List.append_nil, q3] at g1
        rw [if_pos h6] at g2
        exact ⟨b, y, 0, g1, Or.inl ⟨rfl, rfl⟩, by omega⟩
      · have hne : (e : Int) % 9 ≠ 0 := h8
        obtain ⟨h6, h7⟩ := h6.resolve_left h8
        unfold sds esd at g1
        unfold epr at g2
        rw [if_neg hne, q3] at g1
        rw [if_neg hne] at g2
        rw [q3] at h7
        obtain ⟨m, y1, y2, f1, f2, f3⟩ := (spR_app _ _ _ _ _).mp g1
        have hcl := (hW.2.2.2.1 ((e : Int) % 9 - 1).toNat (by omega)).2.2.1
        refine ⟨m, y1, 16 * y2 + (B 12 ((e : Int) % 9 - 1).toNat * 16 + (((e : Int) % 9 - 1).toNat : Int) + 1), f1, Or.inr ⟨by omega, ((e : Int) % 9 - 1).toNat, by omega, h7, b, y2, _, f2, ⟨rfl, rfl⟩, rfl⟩, by omega⟩
set_option maxHeartbeats 1000000 in
theorem q_walkWord {B : Nat → Nat → Int} {t : Nat → Int} (hB : GB B) (hW : GW B) (ht : ∀ k, inI (t k)) {b w : Nat} (hb : b ≤ 36) (hw : (w : Int) < B 18 0) {now next seeds lows : Nat → Int} {low high : Int} (nA xA : Nat) (hok : spOk now next low high) (hK : SK B t b (B 18 1).toNat seeds lows) {x1 x2 : Int} (e1 : x1 = w) (e2 : x2 = b) :
    wp (m_X6_walkWord x1 x2 (B 0) (B 1) (B 2) (B 3) (B 4) (B 7) (B 13) t now nA next xA low high seeds lows) (fun u => WO B t (ZW B t b w) (pfx (B 4 w) (siz 6 (B 4 w))) u.1 u.2.2.2.2.1 u.2.2.2.2.2 ∧ spOk u.1 u.2.2.1 u.2.2.2.2.1 u.2.2.2.2.2) := by
  have hW0 := hW.1
  have hE := hW.2.1
  obtain ⟨o1, o2, o3, o4, o5, o6⟩ := hok
  obtain ⟨⟨n, hwr⟩, _, _, hwc⟩ := hW.2.2.1 w hw
  have hsw := siz_of (by decide) hwr
  have hwn := hwr.2.1
  have hZ := ZW_bd (t := t) hB hW (w := w) hb
  have ew : x1.toNat = w := by omega
  have eb : x2.toNat = b := by omega
  have fin : ∀ (now' : Nat → Int) (lo : Int), (0 ≤ lo ∧ lo ≤ 36) → (∀ i, inI (now' i)) → WO B t (ZW B t b w) [] now' lo x2 → wp (m_X6_walkWord_61 x1 (B 0) (B 1) (B 2) (B 3) (B 4) (B 7) (B 13) t now' nA next xA lo x2 seeds lows) (fun u => WO B t (ZW B t b w) (pfx (B 4 w) (siz 6 (B 4 w))) u.1 u.2.2.2.2.1 u.2.2.2.2.2 ∧ spOk u.1 u.2.2.1 u.2.2.2.2.1 u.2.2.2.2.2) := by
    intro now' lo hlo hI h0
    unfold m_X6_walkWord_61
    rw [ew]
    refine wp_gd (by omega) (wp_bind (q_walkBack hB ht hZ (fun s hs => absurd hs List.not_mem_nil) (most := 6) (n := n) (Or.inl rfl) rfl hwr (hW.2.2.2.2 _).1 (by simp; omega) h0 ⟨hI, o2, by omega, by omega, by omega, by omega⟩ nA xA) ?_)
    rintro ⟨n1, n1A, n2, n2A, l2, h2⟩ ⟨w1, w2⟩
    refine wp_some ⟨?_, w2⟩
    rw [List.append_nil, ← hsw] at w1
    exact w1
  have hw0 : ∀ p x, wkS B t (ZW B t b w) [] p x ↔ ZW B t b w p x := by
    intro p x
    constructor
    · rintro ⟨q, y, z, ⟨h1, h2⟩, h3, h4⟩
      subst h1
      have : x = z := by omega
      rw [this]
      exact h3
    · intro h
      exact ⟨p, 0, x, ⟨rfl, rfl⟩, h, by omega⟩
  unfold m_X6_walkWord m_X6_startAt
  rw [ew, eb]
  refine wp_bind (P := fun u : (Nat → Int) × Int × Int => u = (uz now b 0, x2, x2)) (wp_gd (by omega) (wp_vl (wp_some rfl))) ?_
  rintro u rfl
  refine wp_gd (by omega) (wp_vl (wp_gd (by omega) (wp_if (fun c1 => ?_) (fun c1 => ?_))))
  · refine fin _ x2 (by omega) (uz_inI o1 (by decide)) ?_
    intro p hp
    have h1 := WO_start (B := B) (t := t) (now := now) (b := b) (v := 0) (by decide) p hp
    rw [e2]
    refine h1.iff (fun x => ?_)
    rw [hw0]
    constructor
    · rintro (⟨h2, h3⟩ | ⟨h2, _⟩)
      · exact ⟨p, 0, 0, ⟨rfl, rfl⟩, ⟨h2, rfl⟩, by omega⟩
      · exact absurd c1 h2
    · rintro ⟨q, y, z, ⟨h2, h3⟩, ⟨h4, h5⟩, h6⟩
      exact Or.inl ⟨by omega, by omega⟩
  · obtain ⟨C, eC⟩ : ∃ C : Nat, B 7 w = C := ⟨(B 7 w).toNat, by omega⟩
    have hC6 : C < 6 := by omega
    obtain ⟨k1, k2, k3, k4⟩ := hK
    obtain ⟨⟨l0, l1⟩, l2⟩ := k2 C hC6
    have eCn : (B 7 w).toNat = C := by omega
    rw [eCn]
    obtain ⟨l, el⟩ : ∃ l : Nat, lows C = l := ⟨(lows C).toNat, by omega⟩
    refine wp_gd (by omega) (wp_vl (wp_gd (by omega) (wp_vl ?_)))
    refine fin _ _ (by omega) ?_ ?_
    · intro i
      unfold zcp
      by_cases h : (lows C).toNat ≤ i ∧ i < (lows C).toNat + (x2 - lows C).toNat
      · rw [if_pos h]
        exact k3 _
      · rw [if_neg h]
        exact uz_inI o1 (by decide) i
    · intro p hp
      have hSDb : ∀ q x, SD B t b (B 18 1).toNat (B 7 w) q x → q < b := fun q x hx => (SD_in hB hW hb (by omega) hx).1
      have hval : ∀ v : Int, v = vw (zcp seeds (uz now b 0) ((B 7 w) * 37 + lows C).toNat (lows C).toNat (x2 - lows C).toNat) (lows C) x2 p → Lst (ZW B t b w p) 268435456 v → Lst (wkS B t (ZW B t b w) [] p) 268435456 (vw (zcp seeds (uz now b 0) ((B 7 w) * 37 + lows C).toNat (lows C).toNat (x2 - lows C).toNat) (lows C) x2 p) := by
        intro v hv hL
        rw [← hv]
        exact hL.iff (hw0 p)
      by_cases h1 : (p : Int) < lows C
      · refine hval 268435456 ?_ (Lst.none (fun x hx => ?_))
        · unfold vw
          rw [if_neg (by omega)]
        · rcases hx with ⟨h2, _⟩ | ⟨_, h2⟩
          · omega
          · rw [eC] at h2
            have := l2 p x h2
            omega
      · by_cases h2 : p < b
        · refine hval (seeds (37 * C + p)) ?_ ?_
          · unfold vw zcp
            rw [if_pos (by omega), if_pos (by omega)]
            congr 1
            omega
          · refine (k1 C p hC6 hp).iff (fun x => ?_)
            constructor
            · rintro (⟨h3, _⟩ | ⟨_, h3⟩)
              · omega
              · rw [eC] at h3
                exact h3
            · intro h3
              refine Or.inr ⟨c1, ?_⟩
              rw [eC]
              exact h3
        · by_cases h3 : p = b
          · refine hval 0 ?_ (Or.inr ⟨by decide, Or.inl ⟨h3, rfl⟩, fun x hx => ?_⟩)
            · unfold vw zcp
              rw [if_pos (by omega), if_neg (by omega), h3, uz_at]
            · rcases hx with ⟨_, h4⟩ | ⟨_, h4⟩
              · omega
              · have := hSDb p x h4
                omega
          · refine hval 268435456 ?_ (Lst.none (fun x hx => ?_))
            · unfold vw
              rw [if_neg (by omega)]
            · rcases hx with ⟨h4, _⟩ | ⟨_, h4⟩
              · exact h3 h4
              · have := hSDb p x h4
                omega
