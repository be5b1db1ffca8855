/-! the endings' seeds; a word with each of its endings at once -/
theorem Lst.union {S1 S2 S : Int → Prop} {far v1 v2 : Int} (h1 : Lst S1 far v1) (h2 : Lst S2 far v2) (hS : ∀ x, S x ↔ S1 x ∨ S2 x) : Lst S far (min v1 v2) := by
  rcases h1 with ⟨a1, a2⟩ | ⟨a1, a2, a3⟩
  · rcases h2 with ⟨b1, b2⟩ | ⟨b1, b2, b3⟩
    · refine Or.inl ⟨by omega, fun x hx => ?_⟩
      rcases (hS x).mp hx with z | z
      · exact a2 x z
      · exact b2 x z
    · rw [show min v1 v2 = v2 by omega]
      refine Or.inr ⟨b1, (hS _).mpr (Or.inr b2), fun x hx => ?_⟩
      rcases (hS x).mp hx with z | z
      · exact absurd z (a2 x)
      · exact b3 x z
  · rcases h2 with ⟨b1, b2⟩ | ⟨b1, b2, b3⟩
    · rw [show min v1 v2 = v1 by omega]
      refine Or.inr ⟨a1, (hS _).mpr (Or.inl a2), fun x hx => ?_⟩
      rcases (hS x).mp hx with z | z
      · exact a3 x z
      · exact absurd z (b2 x)
    · refine Or.inr ⟨by omega, ?_, fun x hx => ?_⟩
      · by_cases h : v1 ≤ v2
        · rw [show min v1 v2 = v1 by omega]
          exact (hS _).mpr (Or.inl a2)
        · rw [show min v1 v2 = v2 by omega]
          exact (hS _).mpr (Or.inr b2)
      · rcases (hS x).mp hx with z | z
        · have := a3 x z
          omega
        · have := b3 x z
          omega
theorem spR_app {B : Nat → Nat → Int} {t : Nat → Int} (s2 : List Nat) : ∀ (s1 : List Nat) (a b : Nat) (x : Int), spR B t (s1 ++ s2) a b x ↔ ∃ (m : Nat) (y1 y2 : Int), spR B t s1 a m y1 ∧ spR B t s2 m b y2 ∧ x = y1 + y2 := by
  intro s1
  induction s1 with
  | nil =>
    intro a b x
    constructor
    · intro h
      exact ⟨a, 0, x, ⟨rfl, rfl⟩, h, by omega⟩
    · rintro ⟨m, y1, y2, ⟨h1, h2⟩, h3, h4⟩
      subst h1
      have : x = y2 := by omega
      subst this
      exact h3
  | cons s s1 ih =>
    intro a b x
    constructor
    · rintro ⟨j, y, h1, h2, h3, h4⟩
      obtain ⟨m, y1, y2, g1, g2, g3⟩ := (ih _ _ _).mp h3
      exact ⟨m, prc B t (3 * s + j) a + y1, y2, ⟨j, y1, h1, h2, g1, rfl⟩, g2, by omega⟩
    · rintro ⟨m, y1, y2, ⟨j, y, h1, h2, h3, h4⟩, g2, g3⟩
      exact ⟨j, y + y2, h1, h2, (ih _ _ _).mpr ⟨m, y, y2, h3, g2, rfl⟩, by omega⟩
theorem spR_lt {B : Nat → Nat → Int} {t : Nat → Int} (hB : GB B) {ss : List Nat} (hs : ∀ s ∈ ss, s < 50) (hne : 0 < ss.length) {a b : Nat} {x : Int} (h : spR B t ss a b x) : a < b := by
  cases ss with
  | nil => exact absurd hne (by decide)
  | cons s ss =>
    obtain ⟨j, y, h1, h2, h3, h4⟩ := h
    obtain ⟨n, hn1, hn2⟩ := hB.2.2.2.1 s j (hs s List.mem_cons_self) h1
    have := hn1.1
    have := (spR_bd hB ss (fun s' h => hs s' (List.mem_cons_of_mem _ h)) _ _ _ h3).2.2
    omega
abbrev eSd (B : Nat → Nat → Int) (e : Nat) : List Nat := pfx (B 9 e) (siz 6 (B 9 e))
abbrev ZE (B : Nat → Nat → Int) (b e : Nat) : Nat → Int → Prop := fun q z => q = b ∧ z = B 12 e * 16 + e + 1
/-- where a stem may end, so that one of the first k endings of a class fills the rest -/
def SD (B : Nat → Nat → Int) (t : Nat → Int) (b k : Nat) (c : Int) (p : Nat) (x : Int) : Prop := ∃ e : Nat, e < k ∧ B 11 e = c ∧ wkS B t (ZE B b e) (eSd B e) p x
theorem SD_in {B : Nat → Nat → Int} {t : Nat → Int} (hB : GB B) (hW : GW B) {b k : Nat} (hb : b ≤ 36) (hk : (k : Int) ≤ B 18 1) {c : Int} {p : Nat} {x : Int} (h : SD B t b k c p x) : p < b ∧ 0 ≤ x ∧ x < 20000 := by
  obtain ⟨e, h1, h2, q, y, z, h3, ⟨h4, h5⟩, h6⟩ := h
  obtain ⟨⟨n, hv⟩, _, _, hpr⟩ := hW.2.2.2.1 e (by omega)
  have hE := hW.2.1
  have hsv := siz_of (by decide) hv
  have hl := pfx_lt hv n (Nat.le_refl n)
  have hn1 := hv.1
  have hn2 := hv.2.1
  unfold eSd at h3
  rw [hsv] at h3
  have g1 := spR_lt hB hl (by rw [pfx_len]; omega) h3
  have g2 := spR_bd hB _ hl _ _ _ h3
  rw [pfx_len] at g2
  omega
/-- the seeds of the first k endings stand -/
def SK (B : Nat → Nat → Int) (t : Nat → Int) (b k : Nat) (seeds lows : Nat → Int) : Prop := (∀ c p : Nat, c < 6 → p ≤ 36 → Lst (SD B t b k c p) 268435456 (seeds (37 * c + p))) ∧ (∀ c : Nat, c < 6 → (0 ≤ lows c ∧ lows c ≤ b) ∧ ∀ p x, SD B t b k c p x → lows c ≤ (p : Int)) ∧ (∀ i, inI (seeds i)) ∧ ∀ i, inI (lows i)
set_option maxHeartbeats 2000000 in
theorem q_seedEndings {B : Nat → Nat → Int} {t : Nat → Int} (hB : GB B) (hW : GW B) (ht : ∀ k, inI (t k)) {b : Nat} (hb : b ≤ 36) {now next seeds lows : Nat → Int} {low high : Int} (nA xA : Nat) (hok : spOk now next low high) (hSd : ∀ i, inI (seeds i)) (hLo : ∀ i, inI (lows i)) {x1 : Int} (e1 : x1 = b) :
    wp (m_X6_seedEndings x1 (B 0) (B 1) (B 2) (B 3) (B 18 1) (B 9) (B 11) (B 12) (B 13) t now nA next xA low high seeds lows) (fun u => SK B t b (B 18 1).toNat u.2.2.2.2.2.2.1 u.2.2.2.2.2.2.2 ∧ spOk u.1 u.2.2.1 u.2.2.2.2.1 u.2.2.2.2.2.1) := by
  have hE := hW.2.1
  unfold m_X6_seedEndings
  refine wp_eq (q_fill (by decide)) (wp_eq (q_fill (by decide)) ?_)
  refine wp_bind (P := fun u : Nat × Int × (Nat → Int) × Nat × (Nat → Int) × Nat × Int × Int × (Nat → Int) × (Nat → Int) => SK B t b (B 18 1).toNat u.2.2.2.2.2.2.2.2.1 u.2.2.2.2.2.2.2.2.2 ∧ spOk u.2.2.1 u.2.2.2.2.1 u.2.2.2.2.2.2.1 u.2.2.2.2.2.2.2.1) (wp_loop (fun k y => y.1 = (k : Int) ∧ SK B t b k y.2.2.2.2.2.2.2.1 y.2.2.2.2.2.2.2.2 ∧ spOk y.2.1 y.2.2.2.1 y.2.2.2.2.2.1 y.2.2.2.2.2.2.1) (B 18 1).toNat (by omega) ⟨rfl, ?_, hok⟩ ?_) ?_
  · refine ⟨fun c p hc hp => ?_, fun c hc => ⟨?_, fun p x ⟨e, h, _⟩ => absurd h (by omega)⟩, fz_inI hSd (by decide), fz_inI hLo (by omega)⟩
    · show Lst _ 268435456 (fz seeds 0 222 268435456 (37 * c + p))
      rw [fz_in seeds 268435456 (by omega)]
      exact Lst.none (fun x ⟨e, h, _⟩ => absurd h (by omega))
    · show 0 ≤ fz lows 0 6 x1 c ∧ fz lows 0 6 x1 c ≤ b
      rw [fz_in lows x1 (by omega)]
      omega
  · intro k y hk hs
    obtain ⟨a1, a2, a3⟩ := hs
    obtain ⟨o1, o2, o3, o4, o5, o6⟩ := id a3
    obtain ⟨s1, s2, s3, s4⟩ := a2
    have ek : y.1.toNat = k := by omega
    unfold m_X6_seedEndings_19
    refine wp_gd (by omega) (wp_gd (by omega) (wp_if (fun c1 => ?_) (fun c1 => ?_)))
    · refine wp_end (by decide) ⟨?_, a3⟩
      rw [show (B 18 1).toNat = k by omega]
      exact ⟨s1, s2, s3, s4⟩
    · obtain ⟨⟨n, hv⟩, _, hcl, hpr⟩ := hW.2.2.2.1 k (by omega)
      have hsv := siz_of (by decide) hv
      have hn2 := hv.2.1
      rw [ek]
      have hv16 : 0 ≤ B 12 k * 16 + y.1 + 1 ∧ B 12 k * 16 + y.1 + 1 < 1000 := by omega
      refine wp_gd (by omega) ?_
      unfold m_X6_startAt
      have eb : x1.toNat = b := by omega
      rw [eb]
      refine wp_bind (P := fun u : (Nat → Int) × Int × Int => u = (uz y.2.1 b (B 12 k * 16 + y.1 + 1), x1, x1)) (wp_gd (by omega) (wp_vl (wp_some rfl))) ?_
      rintro u rfl
      have hZ : ∀ q z, ZE B b k q z → 0 ≤ z ∧ z < 20000 ∧ q ≤ 36 := fun q z h => by
        obtain ⟨h1, h2⟩ := h
        omega
      have h0 : WO B t (ZE B b k) [] (uz y.2.1 b (B 12 k * 16 + y.1 + 1)) x1 x1 := by
        have := WO_start (B := B) (t := t) (now := y.2.1) (b := b) (v := B 12 k * 16 + y.1 + 1) (by omega)
        rw [a1] at this ⊢
        rw [e1]
        exact this
      refine wp_gd (by omega) (wp_bind (q_walkBack hB ht hZ (fun s hs => absurd hs List.not_mem_nil) (most := 3) (n := n) (Or.inr rfl) rfl hv (hW.2.2.2.2 _).2.2 (by simp; omega) h0 ⟨uz_inI o1 (by omega), o2, by omega, by omega, by omega, by omega⟩ _ _) ?_)
      rintro ⟨n1, n1A, n2, n2A, lo, hi⟩ ⟨w1, w2⟩
      have w1 : WO B t (ZE B b k) (pfx (B 9 k) n ++ []) n1 lo hi := w1
      have w2 : spOk n1 n2 lo hi := w2
      rw [List.append_nil, ← hsv] at w1
      obtain ⟨p1, p2, p3, p4, p5, p6⟩ := id w2
      have hSD : ∀ (c : Int) p x, SD B t b (k + 1) c p x ↔ SD B t b k c p x ∨ (c = B 11 k ∧ wkS B t (ZE B b k) (eSd B k) p x) := by
        intro c p x
        constructor
        · rintro ⟨e, h1, h2, h3⟩
          by_cases hek : e = k
          · subst hek
            exact Or.inr ⟨h2.symm, h3⟩
          · exact Or.inl ⟨e, by omega, h2, h3⟩
        · rintro (⟨e, h1, h2, h3⟩ | ⟨h2, h3⟩)
          · exact ⟨e, by omega, h2, h3⟩
          · exact ⟨k, by omega, h2.symm, h3⟩
      obtain ⟨C, eC⟩ : ∃ C : Nat, B 11 k = C := ⟨(B 11 k).toNat, by omega⟩
      have seedsle : ∀ c p : Nat, c < 6 → p ≤ 36 → y.2.2.2.2.2.2.2.1 (37 * c + p) ≤ 268435456 := by
        intro c p hc hp
        rcases s1 c p hc hp with ⟨z, _⟩ | ⟨z, _⟩ <;> omega
      refine wp_gd (by omega) (wp_vl (wp_bind (P := fun u : Nat × Int × (Nat → Int) => (∀ c p : Nat, c < 6 → p ≤ 36 → u.2.2 (37 * c + p) = if c = C then min (y.2.2.2.2.2.2.2.1 (37 * c + p)) (vw n1 lo hi p) else y.2.2.2.2.2.2.2.1 (37 * c + p)) ∧ ∀ i, inI (u.2.2 i)) (wp_loop (fun j d => d.1 = lo + j ∧ (∀ c p : Nat, c < 6 → p ≤ 36 → d.2 (37 * c + p) = if c = C ∧ (p : Int) < lo + j then min (y.2.2.2.2.2.2.2.1 (37 * c + p)) (vw n1 lo hi p) else y.2.2.2.2.2.2.2.1 (37 * c + p)) ∧ ∀ i, inI (d.2 i)) (hi - lo + 1).toNat (by omega) ⟨by show lo = _; omega, fun c p hc hp => ?_, s3⟩ ?_) ?_))
      · show y.2.2.2.2.2.2.2.1 (37 * c + p) = _
        by_cases h : c = C ∧ (p : Int) < lo + (0 : Nat)
        · rw [if_pos h]
          have hv1 : vw n1 lo hi p = 268435456 := by
            unfold vw
            rw [if_neg (by omega)]
          rw [hv1]
          have := seedsle c p hc hp
          omega
        · rw [if_neg h]
      · intro j d hj hsd
        obtain ⟨d1, d2, d3⟩ := hsd
        unfold m_X6_seedEndings_80
        refine wp_gd (by omega) (wp_gd (by omega) (wp_if (fun c2 => ?_) (fun c2 => ?_)))
        · refine wp_end (by decide) ⟨fun c p hc hp => ?_, d3⟩
          show d.2 (37 * c + p) = _
          rw [d2 c p hc hp]
          by_cases h : c = C
          · rw [if_pos h]
            by_cases h3 : (p : Int) < lo + j
            · rw [if_pos ⟨h, h3⟩]
            · rw [if_neg (fun z => h3 z.2)]
              have hv1 : vw n1 lo hi p = 268435456 := by
                unfold vw
                rw [if_neg (by omega)]
              rw [hv1]
              have := seedsle c p hc hp
              omega
          · rw [if_neg h, if_neg (fun z => h z.1)]
        · obtain ⟨P, eP⟩ : ∃ P : Nat, d.1 = P := ⟨d.1.toNat, by omega⟩
          have e5 : (B 11 k * 37 + d.1).toNat = 37 * C + P := by omega
          have e6 : d.1.toNat = P := by omega
          refine wp_vl ?_
          rw [e5, e6]
          refine wp_gd (by omega) (wp_gd (by omega) (wp_gd (d3 _) (wp_gd (p1 _) (wp_gd (by omega) (wp_vl (wp_vl (wp_go ⟨by omega, by show d.1 + 1 = _; omega, fun c p hc hp => ?_, ?_⟩)))))))
          · show uz d.2 (37 * C + P) _ (37 * c + p) = _
            have hvP : vw n1 lo hi P = n1 P := by
              unfold vw
              rw [if_pos (by omega)]
            by_cases h : c = C ∧ p = P
            · obtain ⟨rfl, rfl⟩ := h
              rw [uz_at, if_pos ⟨rfl, by omega⟩, d2 c p hc hp, if_neg (by omega), hvP]
            · rw [uz_ne _ _ (by omega), d2 c p hc hp]
              by_cases h3 : c = C ∧ (p : Int) < lo + j
              · rw [if_pos h3, if_pos (by omega)]
              · rw [if_neg h3, if_neg (by omega)]
          · have := d3 (37 * C + P)
            have := p1 P
            exact uz_inI d3 (by omega)
      · rintro ⟨t80, y4, sd⟩ ⟨g1, g2⟩
        have g1 : ∀ c p : Nat, c < 6 → p ≤ 36 → sd (37 * c + p) = if c = C then min (y.2.2.2.2.2.2.2.1 (37 * c + p)) (vw n1 lo hi p) else y.2.2.2.2.2.2.2.1 (37 * c + p) := g1
        have g2 : ∀ i, inI (sd i) := g2
        have hS1 : ∀ c p : Nat, c < 6 → p ≤ 36 → Lst (SD B t b (k + 1) c p) 268435456 (sd (37 * c + p)) := by
          intro c p hc hp
          rw [g1 c p hc hp]
          by_cases h : c = C
          · rw [if_pos h]
            refine (s1 c p hc hp).union (w1 p hp) (fun x => ?_)
            rw [hSD]
            constructor
            · rintro (z | ⟨_, z⟩)
              · exact Or.inl z
              · exact Or.inr z
            · rintro (z | z)
              · exact Or.inl z
              · exact Or.inr ⟨by omega, z⟩
          · rw [if_neg h]
            refine (s1 c p hc hp).iff (fun x => ?_)
            rw [hSD]
            constructor
            · rintro (z | ⟨z, _⟩)
              · exact z
              · omega
            · exact Or.inl
        have hwk : ∀ p x, wkS B t (ZE B b k) (eSd B k) p x → lo ≤ (p : Int) ∧ (p : Int) ≤ hi := by
          intro p x hx
          have hp36 := wkS_le hB hZ (by unfold eSd; rw [hsv]; exact pfx_lt hv n (Nat.le_refl n)) hx
          have := ((w1 p hp36).le hx).2
          unfold vw at this
          by_cases h : lo ≤ (p : Int) ∧ (p : Int) ≤ hi
          · exact h
          · rw [if_neg h] at this
            omega
        refine wp_gd (by omega) (wp_gd (by omega) (wp_if (fun c3 => ?_) (fun c3 => ?_)))
        · refine wp_vl (wp_go ⟨by omega, by show y.1 + 1 = _; omega, ⟨hS1, fun c hc => ⟨(s2 c hc).1, fun p x hx => ?_⟩, g2, s4⟩, w2⟩)
          rcases (hSD _ _ _).mp hx with z | ⟨_, z⟩
          · exact (s2 c hc).2 p x z
          · have := hwk p x z
            omega
        · have e7 : (B 11 k).toNat = C := by omega
          rw [e7]
          have hC6 : C < 6 := by omega
          have hlC := s2 C hC6
          refine wp_gd (by omega) (wp_gd (s4 _) (wp_gd (by omega) (wp_vl (wp_vl (wp_go ⟨by omega, by show y.1 + 1 = _; omega, ⟨hS1, fun c hc => ?_, g2, uz_inI s4 (by omega)⟩, w2⟩)))))
          show (0 ≤ uz y.2.2.2.2.2.2.2.2 C _ c ∧ uz y.2.2.2.2.2.2.2.2 C _ c ≤ b) ∧ ∀ p x, SD B t b (k + 1) c p x → uz y.2.2.2.2.2.2.2.2 C _ c ≤ (p : Int)
          by_cases h : c = C
          · subst h
            rw [uz_at]
            refine ⟨by omega, fun p x hx => ?_⟩
            rcases (hSD _ _ _).mp hx with z | ⟨_, z⟩
            · have := hlC.2 p x z
              omega
            · have := hwk p x z
              omega
          · rw [uz_ne _ _ h]
            refine ⟨(s2 c hc).1, fun p x hx => ?_⟩
            rcases (hSD _ _ _).mp hx with z | ⟨z, _⟩
            · exact (s2 c hc).2 p x z
            · omega
  · rintro ⟨t19, y2, n1, n1A, n2, n2A, lo, hi, sd, ls⟩ hu
    exact wp_some hu
