/-! the class's list of choices -/
abbrev oWk : Type := Int × (Nat → Int) × (Nat → Int) × (Nat → Int) × Nat × (Nat → Int) × Nat × Int × Int
set_option maxHeartbeats 4000000 in
theorem q_offerWords {B : Nat → Nat → Int} {t : Nat → Int} (hB : GB B) (hW : GW B) (ht : ∀ k, inI (t k)) {n a b : Nat} (hn : n ≤ 36) (hab : a < b) (hbn : b ≤ n) {leads rests : Nat → Int} (hLI : ∀ i, inI (leads i)) (hLb : ∀ j : Nat, j ≤ 8 → leads (9 * a + j) = 268435456 ∨ (-200000 ≤ leads (9 * a + j) ∧ leads (9 * a + j) ≤ 200000)) (hR : RBc n 0 rests) {E C now next : Nat → Int} {low high : Int} (nA xA : Nat) (hC : ∀ i, inI (C i)) (hok : spOk now next low high) {x1 x2 : Int} (e1 : x1 = a) (e2 : x2 = b) :
    wp (m_X2_offerWords x1 x2 (B 0) (B 1) (B 2) (B 3) (B 18 0) (B 4) (B 6) (B 7) (B 8) (B 18 1) (B 9) (B 11) (B 12) (B 13) leads 0 E C rests t now nA next xA low high) (fun u => (∃ len : Nat, u.1 = len ∧ len ≤ 12 ∧ OFS (VL B t a b (fun j => leads (9 * a + j)) (fun j => rests (9 * b + j)) 268435456 268435456) 540 (len, u.2.1, u.2.2.1)) ∧ (∀ i, inI (u.2.2.1 i)) ∧ spOk u.2.2.2.1 u.2.2.2.2.2.1 u.2.2.2.2.2.2.2.1 u.2.2.2.2.2.2.2.2) := by
  have hW0 := hW.1
  have hE0 := hW.2.1
  obtain ⟨V, eV⟩ : ∃ V : Nat → Int → Prop, V = VL B t a b (fun j => leads (9 * a + j)) (fun j => rests (9 * b + j)) 268435456 268435456 := ⟨_, rfl⟩
  have hVE : ∀ i v, V i v → EV B i := fun i v h => by rw [eV] at h; exact h.1
  rw [← eV]
  unfold m_X2_offerWords
  refine wp_bind (P := fun u : Nat × Int × oWk => (∃ len : Nat, u.2.2.1 = len ∧ len ≤ 12 ∧ OFS V 540 (len, u.2.2.2.1, u.2.2.2.2.1)) ∧ (∀ i, inI (u.2.2.2.2.1 i)) ∧ spOk u.2.2.2.2.2.1 u.2.2.2.2.2.2.2.1 u.2.2.2.2.2.2.2.2.2.1 u.2.2.2.2.2.2.2.2.2.2) (wp_loop (fun w y => y.1 = (w : Int) ∧ (∃ len : Nat, y.2.1 = len ∧ len ≤ 12 ∧ OFS V (9 * w) (len, y.2.2.1, y.2.2.2.1)) ∧ (∀ i, inI (y.2.2.2.1 i)) ∧ spOk y.2.2.2.2.1 y.2.2.2.2.2.2.1 y.2.2.2.2.2.2.2.2.1 y.2.2.2.2.2.2.2.2.2) (B 18 0).toNat (by omega) ⟨rfl, ⟨0, rfl, by omega, fun _ => (0, E, C), rfl, fun i h => absurd h (by omega), oEq.rfl', fun i _ => by show 0 ≤ 12; omega⟩, hC, hok⟩ ?_) ?_
  · intro w y hw hs
    obtain ⟨a1, ⟨len, a2, a3, a4⟩, a5, a6⟩ := hs
    unfold m_X2_offerWords_2
    refine wp_gd (by omega) (wp_gd (by omega) (wp_if (fun c1 => ?_) (fun c1 => ?_)))
    · refine wp_end (by decide) ⟨⟨len, a2, a3, ?_⟩, a5, a6⟩
      have h9 := OFS.skip (l := (len, y.2.2.1, y.2.2.2.1)) a3 (540 - 9 * w) (9 * w) a4 (fun i g1 g2 v hv => ?_)
      · rw [show 9 * w + (540 - 9 * w) = 540 by omega] at h9
        exact h9
      · rcases hVE i v hv with z | ⟨z1, z2, z3, _⟩
        · omega
        · omega
    · have hwW : (w : Int) < B 18 0 := by omega
      refine wp_bind (P := fun u : Nat × Int × oWk => (∃ len : Nat, u.2.2.1 = len ∧ len ≤ 12 ∧ OFS V (9 * (w + 1)) (len, u.2.2.2.1, u.2.2.2.2.1)) ∧ (∀ i, inI (u.2.2.2.2.1 i)) ∧ spOk u.2.2.2.2.2.1 u.2.2.2.2.2.2.2.1 u.2.2.2.2.2.2.2.2.2.1 u.2.2.2.2.2.2.2.2.2.2) (wp_loop (fun j d => d.1 = (j : Int) - 1 ∧ (∃ len : Nat, d.2.1 = len ∧ len ≤ 12 ∧ OFS V (9 * w + j) (len, d.2.2.1, d.2.2.2.1)) ∧ (∀ i, inI (d.2.2.2.1 i)) ∧ spOk d.2.2.2.2.1 d.2.2.2.2.2.2.1 d.2.2.2.2.2.2.2.2.1 d.2.2.2.2.2.2.2.2.2) (B 18 1 + 1).toNat (by omega) ⟨rfl, ⟨len, a2, a3, a4⟩, a5, a6⟩ ?_) ?_
      · intro j d hj hsd
        obtain ⟨d1, ⟨ln, d2, d3, d4⟩, d5, d6⟩ := hsd
        unfold m_X2_offerWords_16
        refine wp_gd (by omega) (wp_gd (by omega) (wp_if (fun c2 => ?_) (fun c2 => ?_)))
        · refine wp_end (by decide) ⟨⟨ln, d2, d3, ?_⟩, d5, d6⟩
          have h9 := OFS.skip (l := (ln, d.2.2.1, d.2.2.2.1)) d3 (9 - j) (9 * w + j) d4 (fun i g1 g2 v hv => ?_)
          · rw [show 9 * w + j + (9 - j) = 9 * (w + 1) by omega] at h9
            exact h9
          · rcases hVE i v hv with z | ⟨z1, z2, z3, z4⟩
            · omega
            · omega
        · refine wp_bind (q_goes hB hW hwW (j := j) (by omega) a1 d1) ?_
          intro r hr
          refine wp_gd (by omega) (wp_if (fun c3 => ?_) (fun c3 => ?_))
          · have hno : ¬ EV B ((9 * w + j : Nat) : Int) := by
              rcases hr with ⟨z, _⟩ | ⟨_, z⟩
              · omega
              · exact z
            exact wp_vl (wp_go ⟨by omega, by show d.1 + 1 = _; omega, ⟨ln, d2, d3, d4.put d3 (Or.inr ⟨fun v hv => hno (hVE _ v hv), oEq.rfl'⟩) d3⟩, d5, d6⟩)
          · have hev : EV B ((9 * w + j : Nat) : Int) := by
              rcases hr with ⟨_, z⟩ | ⟨z, _⟩
              · exact z
              · omega
            have ee : y.1 * 9 + d.1 + 1 = ((9 * w + j : Nat) : Int) := by omega
            refine wp_vl ?_
            rw [ee]
            refine wp_bind (q_costOf hB hW ht hev (a := a) (b := b) (by omega) (by omega) _ _ d6 rfl e1 e2) ?_
            rintro ⟨cst, n1, n1A, n2, n2A, lo, hi⟩ ⟨w1, w2⟩
            refine wp_bind (q_offer hB hW hn hab hbn hLI hLb hR d3 d5 hev w1 rfl e1 e2 d2 (by rw [← eV]; exact d4)) ?_
            rintro ⟨l2, E2, C2⟩ ⟨len', g1, g2, g3, g4⟩
            rw [← eV] at g3
            exact wp_vl (wp_go ⟨by omega, by show d.1 + 1 = _; omega, ⟨len', g1, g2, g3⟩, g4, w2⟩)
      · rintro ⟨t16, y4, l2, E2, C2, n1, n1A, n2, n2A, lo, hi⟩ ⟨u1, u2, u3⟩
        exact wp_vl (wp_go ⟨by omega, by show y.1 + 1 = _; omega, u1, u2, u3⟩)
  · rintro ⟨t2, y3, l2, E2, C2, n1, n1A, n2, n2A, lo, hi⟩ hu
    exact wp_some hu
/-- what the class knows of the choices of a part -/
def OLC (B : Nat → Nat → Int) (t : Nat → Int) (a b : Nat) (leads rests : Nat → Int) (olen : Int) (E C : Nat → Int) : Prop := ∃ len : Nat, olen = len ∧ len ≤ 12 ∧ OFS (VL B t a b (fun j => leads (9 * a + j)) (fun j => rests (9 * b + j)) 268435456 268435456) 541 (len, E, C)
set_option maxHeartbeats 2000000 in
theorem q_list {B : Nat → Nat → Int} {t : Nat → Int} (hB : GB B) (hW : GW B) (hS : GS B) (ht : ∀ k, inI (t k)) {n : Nat} (hn : n ≤ 36) (hX : FXC B n) {fv vals tails leads sc rests bg en et co E C now next : Nat → Int} {low high rlen rtot known listed olen x1 sl : Int} (nA xA : Nat) (hsc : SCo B sc) (hD : RDC B t n fv rests rtot rlen bg en et co vals) (hTI : ∀ i, inI (tails i)) (hLI : ∀ i, inI (leads i)) (hC : ∀ i, inI (C i)) (hok : spOk now next low high) (es : sl = n) (hx : inI x1) (hkn : known = 0 ∨ (known = 1 ∧ LDC B t n tails leads)) (hli : inI listed) (hls : listed = -1 ∨ (known = 1 ∧ ∃ i a b : Nat, listed = i ∧ bg i = a ∧ en i = b ∧ OLC B t a b leads rests olen E C)) :
    wp (m_X2_list x1 (B 0) (B 1) (B 2) (B 3) (B 18 0) (B 4) (B 6) (B 7) (B 8) (B 18 1) (B 9) (B 11) (B 12) (B 13) sc tails leads known listed olen E C fv rests rlen bg en sl t (B 17) (B 19) vals now nA next xA low high) (fun u => ((u.1 = 0 ∧ ¬ (0 ≤ x1 ∧ x1 < rlen) ∧ u.2 = (tails, leads, known, listed, olen, E, C, now, nA, next, xA, low, high)) ∨ (u.1 = 1 ∧ (0 ≤ x1 ∧ x1 < rlen) ∧ u.2.2.2.1 = 1 ∧ u.2.2.2.2.1 = x1 ∧ LDC B t n u.2.1 u.2.2.1 ∧ ∃ a b : Nat, bg x1.toNat = a ∧ en x1.toNat = b ∧ a < b ∧ b ≤ n ∧ LT B n a b ∧ OLC B t a b u.2.2.1 rests u.2.2.2.2.2.1 u.2.2.2.2.2.2.1 u.2.2.2.2.2.2.2.1)) ∧ (∀ i, inI (u.2.1 i)) ∧ (∀ i, inI (u.2.2.1 i)) ∧ (∀ i, inI (u.2.2.2.2.2.2.2.1 i)) ∧ spOk u.2.2.2.2.2.2.2.2.1 u.2.2.2.2.2.2.2.2.2.2.1 u.2.2.2.2.2.2.2.2.2.2.2.2.1 u.2.2.2.2.2.2.2.2.2.2.2.2.2) := by
  obtain ⟨P, p1, p2, p3, p4⟩ := hD
  unfold m_X2_list
  refine wp_gd hx (wp_if (fun c1 => ?_) (fun c1 => ?_))
  · exact wp_some ⟨Or.inl ⟨rfl, by omega, rfl⟩, hTI, hLI, hC, hok⟩
  · refine wp_gd (by omega) (wp_if (fun c2 => ?_) (fun c2 => ?_))
    · obtain ⟨i, ei⟩ : ∃ i : Nat, x1 = i := ⟨x1.toNat, by omega⟩
      have h0 : 0 < n := by
        rcases Nat.eq_zero_or_pos n with z | z
        · have := (p3 z).1
          omega
        · exact z
      obtain ⟨f1, f2, f3, f4, f5, f6⟩ := p4 h0
      obtain ⟨a, b, e, K, wn, g1, g2, g3, g4, g5, g6⟩ := f5.2.1 i (by omega)
      have fin := FMG_in g6
      have ein : x1.toNat = i := by omega
      refine wp_gd hli (wp_if (fun c3 => ?_) (fun c3 => ?_))
      · rcases hls with z | ⟨z1, i', a', b', z2, z3, z4, z5⟩
        · omega
        · have hii : i' = i := by omega
          subst hii
          have haa : a' = a := by omega
          have hbb : b' = b := by omega
          subst haa
          subst hbb
          have hl : LDC B t n tails leads := by
            rcases hkn with z | ⟨_, z⟩
            · omega
            · exact z
          exact wp_some ⟨Or.inr ⟨rfl, ⟨by omega, c2⟩, z1, c3.symm, hl, a', b', by rw [ein]; exact z3, by rw [ein]; exact z4, fin.1, fin.2.1, fin.2.2.2.2.2, z5⟩, hTI, hLI, hC, hok⟩
      · refine wp_bind (q_allLeads hB hW hS hn hX f1 f2 hsc hTI hLI es hkn) ?_
        rintro ⟨tl, ld, kn2⟩ ⟨l1, l2⟩
        have l1 : LDC B t n tl ld := l1
        have l2 : kn2 = 1 := l2
        have hLb : ∀ j : Nat, j ≤ 8 → ld (9 * a + j) = 268435456 ∨ (-200000 ≤ ld (9 * a + j) ∧ ld (9 * a + j) ≤ 200000) := by
          intro j hj
          have := (l1.2.2.2.1 a j (by omega) hj).2
          omega
        rw [ein, g1, g2]
        refine wp_gd (by omega) (wp_gd (by omega) (wp_bind (q_offerWords hB hW ht hn fin.1 fin.2.1 l1.2.1 hLb f3.2.1 nA xA hC hok rfl rfl) ?_))
        rintro ⟨o1, E1, C1, n1, n1A, n2, n2A, lo, hi⟩ ⟨⟨len, q1, q2, q3⟩, q4, q5⟩
        have q1 : o1 = len := q1
        refine wp_gd (by omega) (wp_gd (by omega) ?_)
        unfold m_X2_offerGuess
        have hev : EV B ((540 : Nat) : Int) := Or.inl rfl
        refine wp_bind (P := fun u : oWk => (∃ len : Nat, u.1 = len ∧ len ≤ 12 ∧ OFS (VL B t a b (fun j => ld (9 * a + j)) (fun j => rests (9 * b + j)) 268435456 268435456) 541 (len, u.2.1, u.2.2.1)) ∧ (∀ i, inI (u.2.2.1 i)) ∧ spOk u.2.2.2.1 u.2.2.2.2.2.1 u.2.2.2.2.2.2.2.1 u.2.2.2.2.2.2.2.2) (wp_bind (q_costOf hB hW ht hev (a := a) (b := b) (by omega) (by omega) n1A n2A q5 rfl rfl rfl) ?_) ?_
        · rintro ⟨cst, m1, m1A, m2, m2A, lo2, hi2⟩ ⟨w1, w2⟩
          refine wp_bind (q_offer hB hW hn fin.1 fin.2.1 l1.2.1 hLb f3.2.1 q2 q4 hev w1 rfl rfl rfl q1 q3) ?_
          rintro ⟨l3, E2, C2⟩ ⟨len', r1, r2, r3, r4⟩
          exact wp_some ⟨⟨len', r1, r2, r3⟩, r4, w2⟩
        · rintro ⟨o2, E2, C2, m1, m1A, m2, m2A, lo2, hi2⟩ ⟨u1, u2, u3⟩
          exact wp_some ⟨Or.inr ⟨rfl, ⟨by omega, c2⟩, l2, rfl, l1, a, b, rfl, rfl, fin.1, fin.2.1, fin.2.2.2.2.2, u1⟩, l1.1.2, l1.2.1, u2, u3⟩
    · exact wp_some ⟨Or.inl ⟨rfl, by omega, rfl⟩, hTI, hLI, hC, hok⟩
