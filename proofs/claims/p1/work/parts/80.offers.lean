/-! the class's offers -/
def LC (B : Nat → Nat → Int) (t : Nat → Int) (e : Int) (a b : Nat) (c : Int) : Prop := CL B t e a b c ∧ ∀ x, CL B t e a b x → c ≤ x
/-- what the line would cost with an entry over a stretch -/
def VL (B : Nat → Nat → Int) (t : Nat → Int) (a b : Nat) (L R : Nat → Int) (fl fr : Int) (i : Nat) (v : Int) : Prop := EV B i ∧ ∃ c, LC B t i a b c ∧ L (kd (B 6) i).toNat < fl ∧ R (kd (B 6) i).toNat < fr ∧ v = L (kd (B 6) i).toNat + c + R (kd (B 6) i).toNat
theorem VL_one {B : Nat → Nat → Int} {t : Nat → Int} {a b : Nat} {L R : Nat → Int} {fl fr : Int} : ∀ i v v', VL B t a b L R fl fr i v → VL B t a b L R fl fr i v' → v = v' := by
  rintro i v v' ⟨_, c, h1, _, _, h2⟩ ⟨_, c', g1, _, _, g2⟩
  have h3 := h1.2 _ g1.1
  have h4 := g1.2 _ h1.1
  omega
theorem OFS.skip {VL : Nat → Int → Prop} {l : oL} (hl : l.1 ≤ 12) : ∀ (d k : Nat), OFS VL k l → (∀ i, k ≤ i → i < k + d → ∀ v, ¬ VL i v) → OFS VL (k + d) l := by
  intro d
  induction d with
  | zero => intro k h _; exact h
  | succ d ih =>
    intro k h hno
    have h1 := ih k h (fun i g1 g2 => hno i g1 (by omega))
    exact h1.put hl (Or.inr ⟨hno (k + d) (by omega) (by omega), oEq.rfl'⟩) hl
set_option maxHeartbeats 1000000 in
theorem q_offer {B : Nat → Nat → Int} {t : Nat → Int} (hB : GB B) (hW : GW B) {n a b k : Nat} (hn : n ≤ 36) (hab : a < b) (hbn : b ≤ n) {leads rests : Nat → Int} (hLI : ∀ i, inI (leads i)) (hLb : ∀ j : Nat, j ≤ 8 → leads (9 * a + j) = 268435456 ∨ (-200000 ≤ leads (9 * a + j) ∧ leads (9 * a + j) ≤ 200000)) (hR : RBc n 0 rests) {len : Nat} {E C : Nat → Int} (hlen : len ≤ 12) (hC : ∀ i, inI (C i)) (hev : EV B k) {cost : Int} (hc : Lst (CL B t k a b) 268435456 cost) {x1 x3 x4 ln : Int} (e1 : x1 = k) (e3 : x3 = a) (e4 : x4 = b) (el : ln = len) (hO : OFS (VL B t a b (fun j => leads (9 * a + j)) (fun j => rests (9 * b + j)) 268435456 268435456) k (len, E, C)) :
    wp (m_X2_offer x1 cost x3 x4 (B 6) leads ln E C rests) (fun u => ∃ len' : Nat, u.1 = len' ∧ len' ≤ 12 ∧ OFS (VL B t a b (fun j => leads (9 * a + j)) (fun j => rests (9 * b + j)) 268435456 268435456) (k + 1) (len', u.2.1, u.2.2) ∧ ∀ i, inI (u.2.2 i)) := by
  have hkb := kd_bd hW hev
  have hk540 : k ≤ 540 := by rcases hev with z | z <;> omega
  obtain ⟨K, eK⟩ : ∃ K : Nat, kd (B 6) k = K := ⟨(kd (B 6) k).toNat, by omega⟩
  have eKn : (kd (B 6) k).toNat = K := by omega
  have hcI : cost = 268435456 ∨ (-300 ≤ cost ∧ cost ≤ 3000) := by
    rcases hc with ⟨z, _⟩ | ⟨_, z, _⟩
    · exact Or.inl z
    · have := CL_bd hB hW hev z
      omega
  have hlb := hLb K (by omega)
  have hrb := hR.1 b K (by omega) hbn (by omega)
  have hsame : (∀ v, ¬ VL B t a b (fun j => leads (9 * a + j)) (fun j => rests (9 * b + j)) 268435456 268435456 k v) → ∃ len' : Nat, ln = len' ∧ len' ≤ 12 ∧ OFS (VL B t a b (fun j => leads (9 * a + j)) (fun j => rests (9 * b + j)) 268435456 268435456) (k + 1) (len', E, C) ∧ ∀ i, inI (C i) := fun hno => ⟨len, el, hlen, hO.put hlen (Or.inr ⟨hno, oEq.rfl'⟩) hlen, hC⟩
  unfold m_X2_offer
  rw [e1]
  refine wp_eq (q_kindOf (by omega)) ?_
  rw [eK, show (x3 * 9 + (K : Int)).toNat = 9 * a + K by omega, show (x4 * 9 + (K : Int)).toNat = 9 * b + K by omega]
  refine wp_gd (by omega) (wp_vl (wp_gd (by omega) (wp_vl (wp_gd (by omega) (wp_if (fun c1 => ?_) (fun c1 => ?_))))))
  · refine wp_some (hsame ?_)
    rintro v ⟨_, c, h1, _⟩
    rw [c1] at hc
    exact hc.no _ h1.1
  · refine wp_gd (hLI _) (wp_if (fun c2 => ?_) (fun c2 => ?_))
    · refine wp_some (hsame ?_)
      rintro v ⟨_, c, _, h2, _⟩
      have h2 : leads (9 * a + (kd (B 6) k).toNat) < 268435456 := h2
      rw [eKn] at h2
      omega
    · refine wp_gd (hR.2 _) (wp_if (fun c3 => ?_) (fun c3 => ?_))
      · refine wp_vl ?_
        have hvI : inI (leads (9 * a + K) + cost + rests (9 * b + K)) := by omega
        refine wp_mono (q_offerIn (x := (k : Int)) hlen hC hvI el (B 6) leads rests) ?_
        rintro u ⟨len', g1, g2, g3, g4⟩
        refine ⟨len', g1, g2, hO.put g2 (Or.inl ⟨leads (9 * a + K) + cost + rests (9 * b + K), ⟨hev, cost, ⟨hc.mem c1, fun x hx => (hc.le hx).1⟩, ?_, ?_, ?_⟩, g3⟩) hlen, g4⟩
        · show leads (9 * a + (kd (B 6) k).toNat) < 268435456
          rw [eKn]
          omega
        · show rests (9 * b + (kd (B 6) k).toNat) < 268435456
          rw [eKn]
          omega
        · show _ = leads (9 * a + (kd (B 6) k).toNat) + cost + rests (9 * b + (kd (B 6) k).toNat)
          rw [eKn]
      · refine wp_some (hsame ?_)
        rintro v ⟨_, c, _, _, h3, _⟩
        have h3 : rests (9 * b + (kd (B 6) k).toNat) < 268435456 := h3
        rw [eKn] at h3
        omega
theorem q_goes {B : Nat → Nat → Int} (hB : GB B) (hW : GW B) {w j : Nat} (hw : (w : Int) < B 18 0) (hj : (j : Int) ≤ B 18 1) {x1 x2 : Int} (e1 : x1 = w) (e2 : x2 = (j : Int) - 1) : wp (m_X1_goesTogether x1 x2 (B 7) (B 18 1) (B 11)) (fun v => (v = 1 ∧ EV B ((9 * w + j : Nat) : Int)) ∨ (v = 0 ∧ ¬ EV B ((9 * w + j : Nat) : Int))) := by
  have hW0 := hW.1
  have hE0 := hW.2.1
  unfold m_X1_goesTogether
  refine wp_gd (by omega) (wp_if (fun c1 => ?_) (fun c1 => ?_))
  · exact wp_some (Or.inl ⟨rfl, Or.inr ⟨by omega, by omega, by omega, Or.inl (by omega)⟩⟩)
  · refine wp_gd (by omega) (wp_if (fun c2 => absurd c2 (by omega)) (fun c2 => ?_))
    have q1 : (((9 * w + j : Nat) : Int) % 9 - 1).toNat = x2.toNat := by omega
    have q2 : (((9 * w + j : Nat) : Int) / 9).toNat = x1.toNat := by omega
    refine wp_gd (by omega) (wp_gd (by omega) (wp_gd (hB.1 11 _ (by decide) (by decide) (by decide)) (wp_gd (hB.1 7 _ (by decide) (by decide) (by decide)) (wp_if (fun c3 => ?_) (fun c3 => ?_)))))
    · exact wp_some (Or.inl ⟨rfl, Or.inr ⟨by omega, by omega, by omega, Or.inr ⟨by omega, by rw [q1, q2]; exact c3⟩⟩⟩)
    · refine wp_some (Or.inr ⟨rfl, ?_⟩)
      rintro (z | ⟨_, _, _, z⟩)
      · omega
      · rcases z with z | ⟨_, z⟩
        · omega
        · rw [q1, q2] at z
          exact c3 z
