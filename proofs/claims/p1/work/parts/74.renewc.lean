/-! the class's reading renewed -/
theorem viaG_eq {B : Nat → Nat → Int} {t : Nat → Int} {n a : Nat} {R R' : Nat → Nat → Int} {far : Int} (h : ∀ b k : Nat, a < b → b ≤ n → R b k = R' b k) {k : Int} {e b : Nat} {x : Int} : viaG B t n a R far k e b x ↔ viaG B t n a R' far k e b x := by
  constructor
  · rintro ⟨c, h1, h2, h3⟩
    rw [h _ _ h1.1.1 h1.1.2] at h2 h3
    exact ⟨c, h1, h2, h3⟩
  · rintro ⟨c, h1, h2, h3⟩
    rw [← h _ _ h1.1.1 h1.1.2] at h2 h3
    exact ⟨c, h1, h2, h3⟩
theorem HS_eq {B : Nat → Nat → Int} {t : Nat → Int} {n a : Nat} {rests rests' : Nat → Int} (h : ∀ b k : Nat, a < b → b ≤ n → k ≤ 8 → rests (9 * b + k) = rests' (9 * b + k)) {k : Nat} (hk : k ≤ 8) {x : Int} : HS B t n a rests k x ↔ HS B t n a rests' k x := by
  constructor
  · rintro ⟨e, b, c, h1, h2, h3, h4⟩
    rw [h _ _ h1.1.1 h1.1.2 hk] at h3 h4
    exact ⟨e, b, c, h1, h2, h3, h4⟩
  · rintro ⟨e, b, c, h1, h2, h3, h4⟩
    rw [← h _ _ h1.1.1 h1.1.2 hk] at h3 h4
    exact ⟨e, b, c, h1, h2, h3, h4⟩
/-- what the class knows of its reading -/
def RDC (B : Nat → Nat → Int) (t : Nat → Int) (n : Nat) (fv rests : Nat → Int) (total len : Int) (bg en et co vals : Nat → Int) : Prop := ∃ P : Nat, len = P ∧ P ≤ 36 ∧ (n = 0 → P = 0 ∧ total = 0) ∧ (0 < n → FV B t n fv ∧ (∀ b, 1 ≤ b → b ≤ n → COL B t (B 18 0).toNat b vals) ∧ BRc B t n 0 rests ∧ Lst (fun x => ∃ e b, viaG B t n 0 (Rc rests) 268435456 9 e b x) 268435456 total ∧ CHN B t n (Rc rests) 268435456 total P bg en et ∧ ∀ i, i < P → ∃ a b e : Nat, bg i = a ∧ en i = b ∧ et i = e ∧ PC B t n a b e (co i))
set_option maxHeartbeats 4000000 in
theorem q_renewC {B : Nat → Nat → Int} {t : Nat → Int} (hB : GB B) (hW : GW B) (hS : GS B) (ht : ∀ k, inI (t k)) {n cols : Nat} (hn : n ≤ 36) (hX : FXC B n) {now next seeds lows vals lr fv heads rests sc bg en et co : Nat → Int} {low high : Int} (nA xA : Nat) (hok : spOk now next low high) (hSd : ∀ i, inI (seeds i)) (hLo : ∀ i, inI (lows i)) (hVO : VO B cols vals lr) (hfv : ∀ i, inI (fv i)) (hhd : ∀ i, inI (heads i)) (hrs : ∀ i, inI (rests i)) (hsc : SCo B sc) {sl vc known total len : Int} (es : sl = n) (ec : vc = cols) (hkn : known = 0 ∨ (known = 1 ∧ RDC B t n fv rests total len bg en et co vals)) :
    wp (m_X3_renew (B 0) (B 1) (B 2) (B 3) (B 18 0) (B 4) (B 6) (B 7) (B 8) (B 18 1) (B 9) (B 11) (B 12) (B 13) sc fv heads rests known total len bg en et co sl t (B 17) (B 19) vals lr vc now nA next xA low high seeds lows) (fun u => RDC B t n u.1 u.2.2.1 u.2.2.2.2.1 u.2.2.2.2.2.1 u.2.2.2.2.2.2.1 u.2.2.2.2.2.2.2.1 u.2.2.2.2.2.2.2.2.1 u.2.2.2.2.2.2.2.2.2.1 u.2.2.2.2.2.2.2.2.2.2.1 ∧ u.2.2.2.1 = 1 ∧ (∀ i, inI (u.1 i)) ∧ (∀ i, inI (u.2.1 i)) ∧ (∀ i, inI (u.2.2.1 i)) ∧ (∃ cols' : Nat, u.2.2.2.2.2.2.2.2.2.2.2.2.1 = cols' ∧ VO B cols' u.2.2.2.2.2.2.2.2.2.2.1 u.2.2.2.2.2.2.2.2.2.2.2.1) ∧ spOk u.2.2.2.2.2.2.2.2.2.2.2.2.2.1 u.2.2.2.2.2.2.2.2.2.2.2.2.2.2.2.1 u.2.2.2.2.2.2.2.2.2.2.2.2.2.2.2.2.2.1 u.2.2.2.2.2.2.2.2.2.2.2.2.2.2.2.2.2.2.1 ∧ (∀ i, inI (u.2.2.2.2.2.2.2.2.2.2.2.2.2.2.2.2.2.2.2.1 i)) ∧ ∀ i, inI (u.2.2.2.2.2.2.2.2.2.2.2.2.2.2.2.2.2.2.2.2 i)) := by
  unfold m_X3_renew
  refine wp_gd (by omega) (wp_if (fun c1 => ?_) (fun c1 => ?_))
  · refine wp_gd (by omega) (wp_if (fun c2 => ?_) (fun c2 => ?_))
    · exact wp_some ⟨⟨0, rfl, by omega, fun _ => ⟨rfl, rfl⟩, fun z => absurd z (by omega)⟩, rfl, hfv, hhd, hrs, ⟨cols, ec, hVO⟩, hok, hSd, hLo⟩
    · have h0 : 0 < n := by omega
      refine wp_bind (q_spans hB hW ht hn nA xA hok hSd hLo hVO es ec) ?_
      rintro ⟨vv, lr2, vc2, n1, n1A, n2, n2A, lo, hi, sd, ls⟩ ⟨s1, s2, s3, s4, s5⟩
      have s2 : ∀ b, 1 ≤ b → b ≤ n → COL B t (B 18 0).toNat b vv := s2
      refine wp_bind (q_valueFixed hB hW ht hn hX n1A n2A s3 hfv es) ?_
      rintro ⟨f2, m1, m1A, m2, m2A, lo2, hi2⟩ ⟨v1, v2⟩
      have v1 : FV B t n f2 := v1
      refine wp_eq (q_fillRange (by omega) (by omega) (by omega) ⟨by decide, by omega⟩) ?_
      rw [show (sl * 9).toNat = 9 * n by omega, show ((sl + 1) * 9).toNat = 9 * (n + 1) by omega]
      refine wp_vl (wp_bind (P := fun u : Nat × Int × (Nat → Int) × (Nat → Int) => BRc B t n 0 u.2.2.2 ∧ (∀ i, inI (u.2.2.1 i)) ∧ ∀ k, k ≤ 8 → Lst (HS B t n 0 u.2.2.2 k) 268435456 (u.2.2.1 (9 * 0 + k))) (wp_loop (fun j y => y.1 = (n : Int) - 1 - j ∧ BRc B t n (n - j) y.2.2 ∧ (∀ i, inI (y.2.1 i)) ∧ (0 < j → ∀ k, k ≤ 8 → Lst (HS B t n (n - j) y.2.2 k) 268435456 (y.2.1 (9 * (n - j) + k)))) n (by omega) ⟨by show sl - 1 = _; omega, ⟨fun k hk => ?_, ⟨fun b k h1 h2 h3 => ?_, fz_inI hrs (by decide)⟩, fun a h1 h2 => absurd h1 (by omega)⟩, hhd, fun z => absurd z (by omega)⟩ ?_) ?_)
      · show fz rests (9 * n) (9 * (n + 1)) 0 (9 * n + k) = 0
        exact fz_in _ _ (by omega)
      · have hb : b = n := by omega
        subst hb
        right
        show -(4000 * ((b : Int) - b)) ≤ fz rests (9 * b) (9 * (b + 1)) 0 (9 * b + k) ∧ fz rests (9 * b) (9 * (b + 1)) 0 (9 * b + k) ≤ 4000 * ((b : Int) - b)
        rw [fz_in _ _ (by omega)]
        omega
      · intro j y hj hs
        obtain ⟨a1, a2, a3, a4⟩ := hs
        unfold m_X3_renew_85
        refine wp_gd (by omega) (wp_if (fun c3 => ?_) (fun c3 => ?_))
        · have hjn : n - j = 0 := by omega
          rw [hjn] at a2 a4
          exact wp_end (by decide) ⟨a2, a3, a4 (by omega)⟩
        · obtain ⟨a, ea⟩ : ∃ a, a = n - (j + 1) := ⟨_, rfl⟩
          have han : a < n := by omega
          rw [show n - j = a + 1 by omega] at a2
          obtain ⟨r1, r2, r3⟩ := a2
          refine wp_bind (q_fillHeads hB hW hn hX v1 s2 (a := a) han r2 a3 (by omega) es) ?_
          rintro hd ⟨g1, g2, g3⟩
          refine wp_bind (q_fillRests hB hW hS hn (a := a) han hsc r2 g3 g1 (by omega)) ?_
          rintro rr ⟨f1, f3, f4⟩
          have hsame : ∀ b k : Nat, a < b → b ≤ n → k ≤ 8 → rr (9 * b + k) = y.2.2 (9 * b + k) := fun b k h1 h2 h3 => f3 _ (by omega)
          refine wp_vl (wp_go ⟨by omega, by show y.1 + -1 = _; omega, ?_, g3, fun _ k hk => ?_⟩)
          · rw [← ea]
            refine ⟨fun k hk => ?_, f4, fun a' h1 h2 k hk => ?_⟩
            · show rr (9 * n + k) = 0
              rw [f3 _ (by omega)]
              exact r1 k hk
            · show Lst _ 268435456 (rr (9 * a' + k))
              by_cases haa : a' = a
              · subst haa
                refine (f1 k hk).iff (fun x => ?_)
                constructor
                · rintro ⟨e, b, h⟩
                  refine ⟨e, b, ?_⟩
                  obtain ⟨c, q1, q2, q3⟩ := h
                  have hkk := kd_bd hW q1.2.1
                  have he := hsame b (kd (B 6) e).toNat q1.1.1 q1.1.2 (by omega)
                  exact ⟨c, q1, by show y.2.2 _ < 268435456; rw [← he]; exact q2, by rw [q3]; show c + rr _ + _ = c + y.2.2 _ + _; rw [he]⟩
                · rintro ⟨e, b, h⟩
                  refine ⟨e, b, ?_⟩
                  obtain ⟨c, q1, q2, q3⟩ := h
                  have hkk := kd_bd hW q1.2.1
                  have he := hsame b (kd (B 6) e).toNat q1.1.1 q1.1.2 (by omega)
                  exact ⟨c, q1, by show rr _ < 268435456; rw [he]; exact q2, by rw [q3]; show c + y.2.2 _ + _ = c + rr _ + _; rw [he]⟩
              · rw [f3 _ (by omega)]
                refine (r3 a' (by omega) h2 k hk).iff (fun x => ?_)
                constructor
                · rintro ⟨e, b, h⟩
                  refine ⟨e, b, ?_⟩
                  obtain ⟨c, q1, q2, q3⟩ := h
                  have hkk := kd_bd hW q1.2.1
                  have he := hsame b (kd (B 6) e).toNat (by have := q1.1.1; omega) q1.1.2 (by omega)
                  exact ⟨c, q1, by show y.2.2 _ < 268435456; rw [← he]; exact q2, by rw [q3]; show c + rr _ + _ = c + y.2.2 _ + _; rw [he]⟩
                · rintro ⟨e, b, h⟩
                  refine ⟨e, b, ?_⟩
                  obtain ⟨c, q1, q2, q3⟩ := h
                  have hkk := kd_bd hW q1.2.1
                  have he := hsame b (kd (B 6) e).toNat (by have := q1.1.1; omega) q1.1.2 (by omega)
                  exact ⟨c, q1, by show rr _ < 268435456; rw [he]; exact q2, by rw [q3]; show c + y.2.2 _ + _ = c + rr _ + _; rw [he]⟩
          · rw [← ea]
            refine (g1 k hk).iff (fun x => ?_)
            exact HS_eq hsame hk
      · rintro ⟨t85, y1, hd, rr⟩ ⟨k1, k2, k3⟩
        have k1 : BRc B t n 0 rr := k1
        have k2 : ∀ i, inI (hd i) := k2
        have k3 : ∀ k, k ≤ 8 → Lst (HS B t n 0 rr k) 268435456 (hd (9 * 0 + k)) := k3
        have hRB1 : RBc n 1 rr := ⟨fun b k h1 h2 h3 => k1.2.1.1 b k (by omega) h2 h3, k1.2.1.2⟩
        refine wp_bind (q_leastHead hB hW hn h0 hRB1 k2 k3) ?_
        intro tot htot
        have htb : tot = 268435456 ∨ (tot < 268435456 ∧ -1000000 < tot ∧ tot < 1000000) := by
          rcases htot with ⟨z, _⟩ | ⟨z, hz, _⟩
          · exact Or.inl z
          · obtain ⟨jj, yy, q1, q2, q3⟩ := (HS_via hW).mp hz
            have q4 := HS_bd hB hW hRB1 q1 q2
            have q5 : stp B 9 jj = 0 := by unfold stp; rw [if_pos rfl]
            omega
        refine wp_gd (by omega) (wp_if (fun c4 => ?_) (fun c4 => ?_))
        · refine wp_some ⟨⟨0, rfl, by omega, fun z => absurd z (by omega), fun _ => ⟨v1, s2, k1, htot, ⟨by omega, fun i h => absurd h (by omega), fun h => absurd h (by omega), fun _ => Or.inr c4⟩, fun i h => absurd h (by omega)⟩⟩, rfl, v1.2, k2, k1.2.1.2, s1, v2, s4, s5⟩
        · refine wp_bind (q_follow hB hW hS hn h0 hX v1 s2 hsc k1 htot (by omega) (by omega) es) ?_
          rintro ⟨ln, bg2, en2, et2, co2⟩ ⟨P, p1, p2, p3⟩
          exact wp_some ⟨⟨P, p1, by have := p2.1; omega, fun z => absurd z (by omega), fun _ => ⟨v1, s2, k1, htot, p2, p3⟩⟩, rfl, v1.2, k2, k1.2.1.2, s1, v2, s4, s5⟩
  · rcases hkn with z | ⟨z, hd⟩
    · exact absurd z c1
    · exact wp_some ⟨hd, z, hfv, hhd, hrs, ⟨cols, ec, hVO⟩, hok, hSd, hLo⟩
