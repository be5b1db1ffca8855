/-! columns filled and renewed -/
theorem ix_apart {a b k a' b' k' : Nat} (ha : a < b) (hk : k ≤ 8) (ha' : a' < b') (hk' : k' ≤ 8) (hb : b ≠ b') : ix a b k < ix 0 b' 0 ∨ ix 0 b' 0 + 9 * b' ≤ ix a b k := by
  unfold ix
  have tri : ∀ c : Nat, 1 ≤ c → c * (c - 1) / 2 + c = (c + 1) * (c + 1 - 1) / 2 := by
    intro c hc
    obtain ⟨d, rfl⟩ : ∃ d, c = d + 1 := ⟨c - 1, by omega⟩
    rw [show d + 1 - 1 = d by omega, show d + 1 + 1 - 1 = d + 1 by omega]
    have h1 : (d + 1 + 1) * (d + 1) = (d + 1) * d + 2 * (d + 1) := by
      rw [Nat.add_mul, Nat.add_mul, Nat.mul_comm d (d + 1), Nat.mul_add, Nat.mul_add]
      omega
    rw [h1]
    omega
  have mono : ∀ c d : Nat, c ≤ d → c * (c - 1) / 2 ≤ d * (d - 1) / 2 := fun c d h => Nat.div_le_div_right (Nat.mul_le_mul h (by omega))
  rcases Nat.lt_or_gt_of_ne hb with h | h
  · have h1 := tri b (by omega)
    have h2 := mono (b + 1) b' (by omega)
    left
    omega
  · have h1 := tri b' (by omega)
    have h2 := mono (b' + 1) b (by omega)
    right
    omega
set_option maxHeartbeats 2000000 in
theorem q_fillColumn {B : Nat → Nat → Int} {t : Nat → Int} (hB : GB B) (hW : GW B) (ht : ∀ k, inI (t k)) {b : Nat} (hb1 : 1 ≤ b) (hb : b ≤ 36) {now next seeds lows vals : Nat → Int} {low high : Int} (nA xA : Nat) (hok : spOk now next low high) (hK : SK B t b (B 18 1).toNat seeds lows) (hV : ∀ i, inI (vals i)) {x1 : Int} (e1 : x1 = b) :
    wp (m_X5_fillColumn x1 (B 0) (B 1) (B 2) (B 3) (B 18 0) (B 4) (B 6) (B 7) (B 8) (B 13) t vals now nA next xA low high seeds lows) (fun u => COL B t (B 18 0).toNat b u.1 ∧ (∀ i, (i < ix 0 b 0 ∨ ix 0 b 0 + 9 * b ≤ i) → u.1 i = vals i) ∧ (∀ i, inI (u.1 i)) ∧ spOk u.2.1 u.2.2.2.1 u.2.2.2.2.2.1 u.2.2.2.2.2.2) := by
  have hW0 := hW.1
  have hpr := hB.2.2.2.2 1 (by decide)
  have hT : (((b * (b - 1) / 2 : Nat) : Int)) = (b : Int) * ((b : Int) - 1) / 2 := by
    rw [Int.natCast_ediv, Int.natCast_mul, Int.natCast_sub hb1]
    rfl
  obtain ⟨T, eT⟩ : ∃ T : Nat, T = b * (b - 1) / 2 := ⟨_, rfl⟩
  rw [← eT] at hT
  have hix : ∀ a k, ix a b k = (T + a) * 9 + k := by
    intro a k
    unfold ix
    rw [eT]
  have htop := ix_lt (a := b - 1) (b := b) (k := 8) hb (by omega) (by omega)
  rw [hix] at htop
  unfold m_X5_fillColumn
  refine wp_eq (q_placeOf (by omega) (by omega)) ?_
  rw [e1, ← hT]
  refine wp_eq (q_fillRange (by omega) (by omega) (by omega) ⟨by decide, by omega⟩) (wp_eq (q_placeOf (by omega) (by omega)) ?_)
  rw [← hT]
  have ec : (((T : Int) + 0) * 9).toNat = ix 0 b 0 := by rw [hix]; omega
  have ec2 : (((T : Int) + 0) * 9 + (b : Int) * 9).toNat = ix 0 b 0 + 9 * b := by rw [hix]; omega
  have eg : (((T : Int) + ((b : Int) - 1)) * 9 + 8).toNat = ix (b - 1) b 8 := by rw [hix]; omega
  rw [ec, ec2, eg, show Int.toNat 1 = 1 from rfl]
  refine wp_gd (by omega) (wp_vl ?_)
  obtain ⟨v0, ev0⟩ : ∃ v0, v0 = uz (fz vals (ix 0 b 0) (ix 0 b 0 + 9 * b) 2147483647) (ix (b - 1) b 8) (B 13 1 * 1024 + 540) := ⟨_, rfl⟩
  rw [← ev0]
  have hV0 : ∀ i, inI (v0 i) := by
    rw [ev0]
    exact uz_inI (fz_inI hV (by decide)) (by omega)
  have hout0 : ∀ i, (i < ix 0 b 0 ∨ ix 0 b 0 + 9 * b ≤ i) → v0 i = vals i := by
    intro i hi
    rw [ev0, uz_ne _ _ (by rw [hix] at hi ⊢; omega), fz_out _ _ (by omega)]
  have hguess : ∀ (a k : Nat) x, VS B t 0 a b k x ↔ (k = 8 ∧ b = a + 1 ∧ x = 1024 * B 13 1 + 540) := by
    intro a k x
    constructor
    · rintro ⟨e, h1, h2, h3, c, h4, h5⟩
      have he : e = 540 := by omega
      subst he
      unfold kd at h3
      rw [if_pos (by rfl)] at h3
      unfold CL at h4
      rw [if_pos (by rfl)] at h4
      exact ⟨by omega, h4.1, by omega⟩
    · rintro ⟨h1, h2, h3⟩
      refine ⟨540, Or.inl rfl, Or.inl rfl, ?_, B 13 1, ?_, by omega⟩
      · unfold kd
        rw [if_pos (by rfl)]
        omega
      · unfold CL
        rw [if_pos (by rfl)]
        exact ⟨h2, rfl⟩
  have hC0 : COL B t 0 b v0 := by
    intro a k ha hk
    by_cases h : a = b - 1 ∧ k = 8
    · obtain ⟨rfl, rfl⟩ := h
      rw [ev0, uz_at]
      refine Or.inr ⟨by omega, (hguess _ _ _).mpr ⟨rfl, by omega, by omega⟩, fun x hx => ?_⟩
      have := ((hguess _ _ _).mp hx).2.2
      omega
    · have hne : ix a b k ≠ ix (b - 1) b 8 := by
        rw [hix, hix]
        omega
      rw [ev0, uz_ne _ _ hne, fz_in _ _ (by rw [hix, hix]; omega)]
      refine Lst.none (fun x hx => ?_)
      have := (hguess _ _ _).mp hx
      omega
  refine wp_bind (P := fun u : Nat × Int × (Nat → Int) × (Nat → Int) × Nat × (Nat → Int) × Nat × Int × Int => COL B t (B 18 0).toNat b u.2.2.1 ∧ (∀ i, (i < ix 0 b 0 ∨ ix 0 b 0 + 9 * b ≤ i) → u.2.2.1 i = vals i) ∧ (∀ i, inI (u.2.2.1 i)) ∧ spOk u.2.2.2.1 u.2.2.2.2.2.1 u.2.2.2.2.2.2.2.1 u.2.2.2.2.2.2.2.2) (wp_loop (fun w y => y.1 = (w : Int) ∧ COL B t w b y.2.1 ∧ (∀ i, (i < ix 0 b 0 ∨ ix 0 b 0 + 9 * b ≤ i) → y.2.1 i = vals i) ∧ (∀ i, inI (y.2.1 i)) ∧ spOk y.2.2.1 y.2.2.2.2.1 y.2.2.2.2.2.2.1 y.2.2.2.2.2.2.2) (B 18 0).toNat (by omega) ⟨rfl, hC0, hout0, hV0, hok⟩ ?_) ?_
  · intro w y hw hs
    obtain ⟨a1, a2, a3, a4, a5⟩ := hs
    unfold m_X5_fillColumn_57
    refine wp_gd (by omega) (wp_gd (by omega) (wp_if (fun c1 => ?_) (fun c1 => ?_)))
    · refine wp_end (by decide) ⟨?_, a3, a4, a5⟩
      rw [show (B 18 0).toNat = w by omega]
      exact a2
    · have hwW : (w : Int) < B 18 0 := by omega
      obtain ⟨_, _, hwk, _⟩ := hW.2.2.1 w hwW
      obtain ⟨K, eK⟩ : ∃ K : Nat, B 6 w = K := ⟨(B 6 w).toNat, by omega⟩
      refine wp_bind (q_walkWord hB hW ht hb hwW _ _ a5 hK a1 rfl) ?_
      rintro ⟨n1, n1A, n2, n2A, lo, hi⟩ ⟨w1, w2⟩
      have w1 : WO B t (ZW B t b w) (pfx (B 4 w) (siz 6 (B 4 w))) n1 lo hi := w1
      have w2 : spOk n1 n2 lo hi := w2
      obtain ⟨o1, o2, o3, o4, o5, o6⟩ := id w2
      have hstep : ∀ (vv : Nat → Int), (∀ a k : Nat, a < b → k ≤ 8 → vv (ix a b k) = if k = K then min (y.2.1 (ix a b k)) (pk B w (vw n1 lo hi a)) else y.2.1 (ix a b k)) → COL B t (w + 1) b vv := by
        intro vv hvv a k ha hk
        rw [hvv a k ha hk]
        have hdiff : ∀ x, VS B t (w + 1) a b k x ↔ VS B t w a b k x ∨ (k = K ∧ ∃ e : Nat, EV B e ∧ e < 540 ∧ e / 9 = w ∧ ∃ c, CL B t e a b c ∧ x = 1024 * c + e) := by
          intro x
          have hkd : ∀ e : Nat, e < 540 → e / 9 = w → kd (B 6) e = K := by
            intro e h1 h2
            unfold kd
            rw [if_neg (by omega), show ((e : Int) / 9).toNat = w by omega, eK]
          constructor
          · rintro ⟨e, h1, h2, h3, h4⟩
            by_cases h5 : e < 540 ∧ e / 9 = w
            · refine Or.inr ⟨?_, e, h1, h5.1, h5.2, h4⟩
              have := hkd e h5.1 h5.2
              omega
            · exact Or.inl ⟨e, h1, by rcases h1 with z | z <;> omega, h3, h4⟩
          · rintro (⟨e, h1, h2, h3, h4⟩ | ⟨h0, e, h1, h2, h3, h4⟩)
            · exact ⟨e, h1, by omega, h3, h4⟩
            · exact ⟨e, h1, by omega, by rw [hkd e h2 h3, h0], h4⟩
        by_cases h : k = K
        · rw [if_pos h]
          refine (a2 a k ha hk).union (pk_word hB hW hwW (w1 a (by omega))) (fun x => ?_)
          rw [hdiff]
          constructor
          · rintro (z | ⟨_, z⟩)
            · exact Or.inl z
            · exact Or.inr z
          · rintro (z | z)
            · exact Or.inl z
            · exact Or.inr ⟨h, z⟩
        · rw [if_neg h]
          refine (a2 a k ha hk).iff (fun x => ?_)
          rw [hdiff]
          constructor
          · rintro (z | ⟨z, _⟩)
            · exact z
            · exact absurd z h
          · exact Or.inl
      refine wp_gd (by omega) (wp_gd (by omega) (wp_if (fun c2 => ?_) (fun c2 => ?_)))
      · refine wp_vl (wp_go ⟨by omega, by show y.1 + 1 = _; omega, hstep y.2.1 (fun a k ha hk => ?_), a3, a4, w2⟩)
        by_cases h : k = K
        · rw [if_pos h]
          have hv : vw n1 lo hi a = 268435456 := by
            unfold vw
            rw [if_neg (by omega)]
          unfold pk
          rw [if_pos hv]
          have := a4 (ix a b k)
          omega
        · rw [if_neg h]
      · rw [show y.1.toNat = w by omega]
        refine wp_gd (by omega) (wp_bind (q_enter hB hW hb hwW ⟨o3, o4⟩ ⟨o5, o6⟩ o1 a4 w1 (K := K) eK a1 (by rw [eK, hix]; omega)) ?_)
        rintro vv ⟨v1, v2, v3⟩
        exact wp_vl (wp_go ⟨by omega, by show y.1 + 1 = _; omega, hstep vv v1, fun i hi => (v2 i hi).trans (a3 i hi), v3, w2⟩)
  · rintro ⟨t57, y3, vv, n1, n1A, n2, n2A, lo, hi⟩ hu
    exact wp_some hu
theorem mis_congr {t t' : Nat → Int} {row : Int} {p : Nat} : ∀ k, (∀ i, p ≤ i → i < p + k → t i = t' i) → mis t row p k = mis t' row p k := by
  intro k
  induction k with
  | zero => intro _; rfl
  | succ k ih =>
    intro h
    show mis t row p k + (if pz 5 row k = t (p + k) then 0 else 1) = mis t' row p k + (if pz 5 row k = t' (p + k) then 0 else 1)
    rw [ih (fun i h1 h2 => h i h1 (by omega)), h (p + k) (by omega) (by omega)]
theorem spR_congr {B : Nat → Nat → Int} {t t' : Nat → Int} (hB : GB B) {b : Nat} : ∀ (ss : List Nat), (∀ s ∈ ss, s < 50) → ∀ (a : Nat) (x : Int), (∀ i, a ≤ i → i < b → t i = t' i) → spR B t ss a b x → spR B t' ss a b x := by
  intro ss
  induction ss with
  | nil => intro _ a x _ h; exact h
  | cons s ss ih =>
    rintro hs a x ht ⟨j, y, h1, h2, h3, h4⟩
    have hle := (spR_bd hB ss (fun s' h => hs s' (List.mem_cons_of_mem _ h)) _ _ _ h3).2.2
    have e := mis_congr (row := B 1 (3 * s + j)) (p := a) (t := t) (t' := t') (B 2 (3 * s + j)).toNat (fun i g1 g2 => ht i g1 (by omega))
    refine ⟨j, y, h1, ?_, ih (fun s' h => hs s' (List.mem_cons_of_mem _ h)) _ _ (fun i g1 g2 => ht i (by omega) g2) h3, ?_⟩
    · unfold fit at h2 ⊢
      rw [← e]
      exact h2
    · unfold prc at h4 ⊢
      rw [← e]
      exact h4
theorem CL_congr {B : Nat → Nat → Int} {t t' : Nat → Int} (hB : GB B) (hW : GW B) {e : Int} (he : EV B e) {a b : Nat} (ht : ∀ i, i < b → t i = t' i) (x : Int) : CL B t e a b x ↔ CL B t' e a b x := by
  unfold CL
  by_cases h : e = 540
  · rw [if_pos h, if_pos h]
  · rw [if_neg h, if_neg h]
    have hs := (sds_ok hW he h).1
    constructor
    · rintro ⟨y, h1, h2⟩
      exact ⟨y, spR_congr hB _ hs _ _ (fun i _ g => ht i g) h1, h2⟩
    · rintro ⟨y, h1, h2⟩
      exact ⟨y, spR_congr hB _ hs _ _ (fun i _ g => (ht i g).symm) h1, h2⟩
theorem COL_congr {B : Nat → Nat → Int} {t t' : Nat → Int} (hB : GB B) (hW : GW B) {w b : Nat} {vals : Nat → Int} (ht : ∀ i, i < b → t i = t' i) (h : COL B t w b vals) : COL B t' w b vals := by
  intro a k ha hk
  refine (h a k ha hk).iff (fun x => ?_)
  constructor
  · rintro ⟨e, h1, h2, h3, c, h4, h5⟩
    exact ⟨e, h1, h2, h3, c, (CL_congr hB hW h1 ht c).mpr h4, h5⟩
  · rintro ⟨e, h1, h2, h3, c, h4, h5⟩
    exact ⟨e, h1, h2, h3, c, (CL_congr hB hW h1 ht c).mp h4, h5⟩
/-- the columns that are kept stand, of the letters as they were read -/
def VO (B : Nat → Nat → Int) (cols : Nat) (vals lr : Nat → Int) : Prop := cols ≤ 36 ∧ (∀ b, 1 ≤ b → b ≤ cols → COL B lr (B 18 0).toNat b vals) ∧ (∀ i, inI (vals i)) ∧ ∀ i, inI (lr i)
set_option maxHeartbeats 2000000 in
theorem q_spans {B : Nat → Nat → Int} {t : Nat → Int} (hB : GB B) (hW : GW B) (ht : ∀ k, inI (t k)) {n cols : Nat} (hn : n ≤ 36) {now next seeds lows vals lr : Nat → Int} {low high : Int} (nA xA : Nat) (hok : spOk now next low high) (hSd : ∀ i, inI (seeds i)) (hLo : ∀ i, inI (lows i)) (hV : VO B cols vals lr) {sl vc : Int} (es : sl = n) (ec : vc = cols) :
    wp (m_X5_renew (B 0) (B 1) (B 2) (B 3) (B 18 0) (B 4) (B 6) (B 7) (B 8) (B 18 1) (B 9) (B 11) (B 12) (B 13) sl t vals lr vc now nA next xA low high seeds lows) (fun u => (∃ cols' : Nat, u.2.2.1 = cols' ∧ VO B cols' u.1 u.2.1) ∧ (∀ b, 1 ≤ b → b ≤ n → COL B t (B 18 0).toNat b u.1) ∧ spOk u.2.2.2.1 u.2.2.2.2.2.1 u.2.2.2.2.2.2.2.1 u.2.2.2.2.2.2.2.2.1 ∧ (∀ i, inI (u.2.2.2.2.2.2.2.2.2.1 i)) ∧ ∀ i, inI (u.2.2.2.2.2.2.2.2.2.2 i)) := by
  obtain ⟨v1, v2, v3, v4⟩ := hV
  unfold m_X5_renew
  refine wp_bind (P := fun u : Nat × Int => ∃ m : Nat, u.2 = m ∧ m ≤ n ∧ m ≤ cols ∧ ∀ i, i < m → lr i = t i) (wp_loop (fun k y => y = (k : Int) ∧ k ≤ n ∧ k ≤ cols ∧ ∀ i, i < k → lr i = t i) 36 (by omega) ⟨rfl, by omega, by omega, fun i h => absurd h (by omega)⟩ ?_) ?_
  · intro k y hk hs
    obtain ⟨a1, a2, a3, a4⟩ := hs
    unfold m_X5_renew_2
    refine wp_gd (by omega) (wp_gd (by omega) (wp_if (fun c1 => ?_) (fun c1 => ?_)))
    · exact wp_end (by decide) ⟨k, a1, a2, a3, a4⟩
    · refine wp_gd (by omega) (wp_if (fun c2 => ?_) (fun c2 => ?_))
      · exact wp_end (by decide) ⟨k, a1, a2, a3, a4⟩
      · rw [show y.toNat = k by omega]
        refine wp_gd (by omega) (wp_gd (by omega) (wp_gd (v4 _) (wp_gd (ht _) (wp_if (fun c3 => ?_) (fun c3 => ?_)))))
        · refine wp_vl (wp_go ⟨by omega, by show y + 1 = _; omega, by omega, by omega, fun i hi => ?_⟩)
          by_cases h : i = k
          · rw [h]
            exact c3
          · exact a4 i (by omega)
        · exact wp_end (by decide) ⟨k, a1, a2, a3, a4⟩
  · rintro ⟨t2, y⟩ ⟨m, e1, m1, m2, m3⟩
    have e1 : y = m := e1
    unfold m_X5_renew_45
    refine wp_vl (wp_bind (P := fun u : Nat × Int × (Nat → Int) × (Nat → Int) × Int × (Nat → Int) × Nat × (Nat → Int) × Nat × Int × Int × (Nat → Int) × (Nat → Int) => (∃ cols' : Nat, u.2.2.2.2.1 = cols' ∧ VO B cols' u.2.2.1 u.2.2.2.1) ∧ (∀ b, 1 ≤ b → b ≤ n → COL B t (B 18 0).toNat b u.2.2.1) ∧ spOk u.2.2.2.2.2.1 u.2.2.2.2.2.2.2.1 u.2.2.2.2.2.2.2.2.2.1 u.2.2.2.2.2.2.2.2.2.2.1 ∧ (∀ i, inI (u.2.2.2.2.2.2.2.2.2.2.2.1 i)) ∧ ∀ i, inI (u.2.2.2.2.2.2.2.2.2.2.2.2 i)) (wp_loop (fun k a => a.1 = ((m + k + 1 : Nat) : Int) ∧ (∃ cols' : Nat, a.2.2.2.1 = cols' ∧ m + k ≤ cols' ∧ VO B cols' a.2.1 a.2.2.1) ∧ (∀ i, i < m + k → a.2.2.1 i = t i) ∧ spOk a.2.2.2.2.1 a.2.2.2.2.2.2.1 a.2.2.2.2.2.2.2.2.1 a.2.2.2.2.2.2.2.2.2.1 ∧ (∀ i, inI (a.2.2.2.2.2.2.2.2.2.2.1 i)) ∧ ∀ i, inI (a.2.2.2.2.2.2.2.2.2.2.2 i)) (n - m) (by omega) ⟨by show y + 1 = _; omega, ⟨cols, ec, by omega, v1, v2, v3, v4⟩, m3, hok, hSd, hLo⟩ ?_) ?_)
    · intro k a hk hs
      obtain ⟨a1, ⟨cols', a2, a3, w1, w2, w3, w4⟩, a4, a5, a6, a7⟩ := hs
      unfold m_X5_renew_49
      refine wp_gd (by omega) (wp_gd (by omega) (wp_if (fun c1 => ?_) (fun c1 => ?_)))
      · refine wp_end (by decide) ⟨⟨cols', a2, w1, w2, w3, w4⟩, fun b h1 h2 => ?_, a5, a6, a7⟩
        exact COL_congr hB hW (fun i hi => a4 i (by omega)) (w2 b h1 (by omega))
      · have e2 : (a.1 - 1).toNat = m + k := by omega
        rw [e2]
        refine wp_gd (by omega) (wp_gd (by omega) (wp_vl (wp_bind (q_seedEndings hB hW ht (b := m + k + 1) (by omega) _ _ a5 a6 a7 a1) ?_)))
        rintro ⟨n1, n1A, n2, n2A, lo, hi, sd, ls⟩ ⟨s1, s2⟩
        refine wp_bind (q_fillColumn hB hW ht (b := m + k + 1) (by omega) (by omega) _ _ s2 s1 w3 a1) ?_
        rintro ⟨vv, q1, q1A, q2, q2A, l2, h2⟩ ⟨f1, f2, f3, f4⟩
        have f1 : COL B t (B 18 0).toNat (m + k + 1) vv := f1
        have f2 : ∀ i, (i < ix 0 (m + k + 1) 0 ∨ ix 0 (m + k + 1) 0 + 9 * (m + k + 1) ≤ i) → vv i = a.2.1 i := f2
        have hlr : ∀ i, i < m + k + 1 → uz a.2.2.1 (m + k) (t (m + k)) i = t i := by
          intro i hi
          by_cases h : i = m + k
          · rw [h, uz_at]
          · rw [uz_ne _ _ h]
            exact a4 i (by omega)
        refine wp_vl (wp_go ⟨by omega, by show a.1 + 1 = _; omega, ⟨m + k + 1, a1, by omega, by omega, fun b h1 h2 => ?_, f3, uz_inI w4 (ht _)⟩, hlr, f4, s1.2.2.1, s1.2.2.2⟩)
        show COL B (uz a.2.2.1 (m + k) (t (m + k))) (B 18 0).toNat b vv
        by_cases hb : b = m + k + 1
        · subst hb
          exact COL_congr hB hW (fun i hi => (hlr i hi).symm) f1
        · have h9 := w2 b h1 (by omega)
          have h10 : COL B a.2.2.1 (B 18 0).toNat b vv := by
            intro x k2 hx hk2
            rw [f2 _ (ix_apart hx hk2 (Nat.zero_lt_succ (m + k)) (Nat.zero_le 8) hb)]
            exact h9 x k2 hx hk2
          refine COL_congr hB hW (fun i hi => ?_) h10
          rw [uz_ne _ _ (by omega)]
    · rintro ⟨t49, y2, vv, lr2, vc2, n1, n1A, n2, n2A, lo, hi, sd, ls⟩ hu
      exact wp_some hu
