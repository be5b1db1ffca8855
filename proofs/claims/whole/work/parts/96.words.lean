/-! changes of the book, on both sides: words, endings, spellings -/
/-- the answers of both sides -/
def ANS (cd rv rv' : Int) : Prop := cd = 1 ∨ (cd = 0 ∧ rv' = rv ∧ inI rv)
theorem uz_inL {f : Nat → Int} {k : Nat} {x : Int} (hf : ∀ i, inL (f i)) (hx : inL x) : ∀ i, inL (uz f k x i) := by
  intro i
  unfold uz
  by_cases h : i = k
  · rw [if_pos h]
    exact hx
  · rw [if_neg h]
    exact hf i
theorem q_addWord {x1 x3 x5 x6 b : Int} (hb : 0 ≤ b ∧ b < 60) (s1 s2 s3 s4 : Nat → Int) : m_X1_addWord x1 x3 x5 x6 b s1 s2 s3 s4 = some (b, b + 1, uz s1 b.toNat x1, uz s2 b.toNat x3, uz s3 b.toNat x5, uz s4 b.toNat x6) := by
  apply wp_out
  unfold m_X1_addWord
  refine wp_gd hb (wp_vl (wp_gd hb (wp_vl (wp_gd hb (wp_vl (wp_gd hb (wp_vl (wp_vl (wp_some ?_)))))))))
  rw [Int.add_sub_cancel]
theorem q_addEnding {x1 x3 x5 x6 b : Int} (hb : 0 ≤ b ∧ b < 8) (s1 s2 s3 s4 : Nat → Int) : m_X1_addEnding x1 x3 x5 x6 b s1 s2 s3 s4 = some (b, b + 1, uz s1 b.toNat x1, uz s2 b.toNat x3, uz s3 b.toNat x5, uz s4 b.toNat x6) := by
  apply wp_out
  unfold m_X1_addEnding
  refine wp_gd hb (wp_vl (wp_gd hb (wp_vl (wp_gd hb (wp_vl (wp_gd hb (wp_vl (wp_vl (wp_some ?_)))))))))
  rw [Int.add_sub_cancel]
theorem z_word {B : Nat → Nat → Int} (hW : GW B) {x1 x3 x5 x6 : Int} (h1 : inL x1) (h3 : inL x3) (h5 : inI x5) (h6 : inI x6) (lk lp rk vc code ir im : Int) :
    (∃ cd rv rv' : Int, ANS cd rv rv' ∧ m_X8_word x1 x3 x5 x6 (B 18 0) (B 4) (B 5) (B 6) (B 7) lk lp rk vc = some (cd, rv, B 18 0, B 4, B 5, B 6, B 7, lk, lp, rk, vc) ∧ m_X9_word x1 x3 x5 x6 code (B 4) (B 5) (B 6) (B 7) (B 18 0) ir im = some (rv', cd, B 4, B 5, B 6, B 7, B 18 0, ir, im)) ∨
    (∃ w : Nat, B 18 0 = w ∧ w < 60 ∧ (∃ n, isR 6 6 50 x1 n) ∧ (∃ n, isR 14 4 16383 x3 n) ∧ (0 ≤ x5 ∧ x5 ≤ 7) ∧ (-1 ≤ x6 ∧ x6 ≤ 5) ∧ m_X8_word x1 x3 x5 x6 (B 18 0) (B 4) (B 5) (B 6) (B 7) lk lp rk vc = some (0, (w : Int), (w : Int) + 1, uz (B 4) w x1, uz (B 5) w x3, uz (B 6) w x5, uz (B 7) w x6, 0, -1, 0, 0) ∧ m_X9_word x1 x3 x5 x6 code (B 4) (B 5) (B 6) (B 7) (B 18 0) ir im = some ((w : Int), 0, uz (B 4) w x1, uz (B 5) w x3, uz (B 6) w x5, uz (B 7) w x6, (w : Int) + 1, 0, 0)) := by
  have hw := hW.1
  obtain ⟨v1, e1, q1⟩ := q_rowLength (r := x1) (x2 := 6) (x3 := 50) (x4 := 6) 6 6 (by omega) rfl rfl (by omega) h1
  obtain ⟨u1, f1, p1⟩ := q_isRow (r := x1) (x2 := 6) (x3 := 6) (top := 50) 6 6 (by omega) rfl rfl (by omega) h1
  obtain ⟨v3, e3, q3⟩ := q_rowLength (r := x3) (x2 := 14) (x3 := 16383) (x4 := 4) 14 4 (by omega) rfl rfl (by omega) h3
  obtain ⟨u3, f3, p3⟩ := q_isRow (r := x3) (x2 := 14) (x3 := 4) (top := 16383) 14 4 (by omega) rfl rfl (by omega) h3
  have g1 : ((∃ n, isR 6 6 50 x1 n) ∧ (1 ≤ v1 ∧ v1 ≤ 6) ∧ u1 = 1) ∨ (v1 = 0 ∧ u1 = 0) := by
    rcases q1 with ⟨q1, q2⟩ | ⟨n, q1, q2⟩
    · rcases p1 with ⟨p1, p2⟩ | ⟨p1, m, p2⟩
      · exact Or.inr ⟨q1, p1⟩
      · exact absurd p2 (q2 m)
    · rcases p1 with ⟨p1, p2⟩ | ⟨p1, m, p2⟩
      · exact absurd q2 (p2 n)
      · have := q2.1
        have := q2.2.1
        exact Or.inl ⟨⟨n, q2⟩, by omega, p1⟩
  have g3 : ((∃ n, isR 14 4 16383 x3 n) ∧ (1 ≤ v3 ∧ v3 ≤ 4) ∧ u3 = 1) ∨ (v3 = 0 ∧ u3 = 0) := by
    rcases q3 with ⟨q1, q2⟩ | ⟨n, q1, q2⟩
    · rcases p3 with ⟨p1, p2⟩ | ⟨p1, m, p2⟩
      · exact Or.inr ⟨q1, p1⟩
      · exact absurd p2 (q2 m)
    · rcases p3 with ⟨p1, p2⟩ | ⟨p1, m, p2⟩
      · exact absurd q2 (p2 n)
      · have := q2.1
        have := q2.2.1
        exact Or.inl ⟨⟨n, q2⟩, by omega, p1⟩
  clear q1 p1 q3 p3
  by_cases hc : (v1 ≠ 0 ∧ v3 ≠ 0) ∧ (0 ≤ x5 ∧ x5 ≤ 7) ∧ (-1 ≤ x6 ∧ x6 ≤ 5)
  · have hv1 : 1 ≤ v1 ∧ v1 ≤ 6 ∧ u1 = 1 := by
      rcases g1 with g1 | g1
      · exact ⟨g1.2.1.1, g1.2.1.2, g1.2.2⟩
      · exact absurd g1.1 hc.1.1
    have hv3 : 1 ≤ v3 ∧ v3 ≤ 4 ∧ u3 = 1 := by
      rcases g3 with g3 | g3
      · exact ⟨g3.2.1.1, g3.2.1.2, g3.2.2⟩
      · exact absurd g3.1 hc.1.2
    by_cases h60 : B 18 0 < 60
    · right
      have r1 : ∃ n, isR 6 6 50 x1 n := by
        rcases g1 with g1 | g1
        · exact g1.1
        · exact absurd g1.1 hc.1.1
      have r3 : ∃ n, isR 14 4 16383 x3 n := by
        rcases g3 with g3 | g3
        · exact g3.1
        · exact absurd g3.1 hc.1.2
      have ew : ((B 18 0).toNat : Int) = B 18 0 := by omega
      refine ⟨(B 18 0).toNat, by omega, by omega, r1, r3, hc.2.1, hc.2.2, ?_, ?_⟩
      · clear g1 g3
        rw [ew]
        apply wp_out
        unfold m_X8_word m_X8_bookChanged m_X5_forget m_X8_lineChanged m_X3_forget m_X2_forget
        rw [e1, e3, q_addWord (by omega)]
        ((repeat' first | with_reducible refine wp_gd ?_ ?_ | with_reducible refine wp_vl ?_ | with_reducible refine wp_if (fun _ => ?_) (fun _ => ?_) | (with_reducible refine wp_eq rfl ?_; try dsimp only)) <;> first | omega | exact wp_some rfl)
      · clear g1 g3
        rw [ew]
        apply wp_out
        unfold m_X9_word m_X9_word_55 m_X9_fail m_X9_changed
        rw [f1, f3]
        (repeat' first | with_reducible refine wp_gd ?_ ?_ | with_reducible refine wp_vl ?_ | with_reducible refine wp_if (fun _ => ?_) (fun _ => ?_) | (with_reducible refine wp_eq rfl ?_; try dsimp only)) <;> first | omega | (refine wp_some ?_; rw [Int.add_sub_cancel])
    · left
      refine ⟨0, -1, -1, Or.inr ⟨rfl, rfl, by decide⟩, ?_, ?_⟩
      · clear g1 g3
        apply wp_out
        unfold m_X8_word m_X1_addWord m_X8_bookChanged m_X5_forget m_X8_lineChanged m_X3_forget m_X2_forget
        rw [e1, e3]
        ((repeat' first | with_reducible refine wp_gd ?_ ?_ | with_reducible refine wp_vl ?_ | with_reducible refine wp_if (fun _ => ?_) (fun _ => ?_) | (with_reducible refine wp_eq rfl ?_; try dsimp only)) <;> first | omega | exact wp_some rfl)
      · clear g1 g3
        apply wp_out
        unfold m_X9_word m_X9_word_55 m_X9_fail m_X9_changed
        rw [f1, f3]
        ((repeat' first | with_reducible refine wp_gd ?_ ?_ | with_reducible refine wp_vl ?_ | with_reducible refine wp_if (fun _ => ?_) (fun _ => ?_) | (with_reducible refine wp_eq rfl ?_; try dsimp only)) <;> first | omega | exact wp_some rfl)
  · left
    have g1' : (1 ≤ v1 ∧ v1 ≤ 6 ∧ u1 = 1) ∨ (v1 = 0 ∧ u1 = 0) := by
      rcases g1 with g1 | g1
      · exact Or.inl ⟨g1.2.1.1, g1.2.1.2, g1.2.2⟩
      · exact Or.inr g1
    have g3' : (1 ≤ v3 ∧ v3 ≤ 4 ∧ u3 = 1) ∨ (v3 = 0 ∧ u3 = 0) := by
      rcases g3 with g3 | g3
      · exact Or.inl ⟨g3.2.1.1, g3.2.1.2, g3.2.2⟩
      · exact Or.inr g3
    clear g1 g3
    refine ⟨1, 0, 0, Or.inl rfl, ?_, ?_⟩
    · apply wp_out
      unfold m_X8_word m_X1_addWord m_X8_bookChanged m_X5_forget m_X8_lineChanged m_X3_forget m_X2_forget
      rw [e1, e3]
      ((repeat' first | with_reducible refine wp_gd ?_ ?_ | with_reducible refine wp_vl ?_ | with_reducible refine wp_if (fun _ => ?_) (fun _ => ?_) | (with_reducible refine wp_eq rfl ?_; try dsimp only)) <;> first | omega | exact wp_some rfl)
    · apply wp_out
      unfold m_X9_word m_X9_word_55 m_X9_fail m_X9_changed
      rw [f1, f3]
      ((repeat' first | with_reducible refine wp_gd ?_ ?_ | with_reducible refine wp_vl ?_ | with_reducible refine wp_if (fun _ => ?_) (fun _ => ?_) | (with_reducible refine wp_eq rfl ?_; try dsimp only)) <;> first | omega | exact wp_some rfl)
/-- the book with one more word -/
def upW (B : Nat → Nat → Int) (w : Nat) (x1 x3 x5 x6 : Int) : Nat → Nat → Int := upB (upB (upB (upB (upB B 4 (uz (B 4) w x1)) 5 (uz (B 5) w x3)) 6 (uz (B 6) w x5)) 7 (uz (B 7) w x6)) 18 (uz (B 18) 0 ((w : Int) + 1))
theorem EV_word {B : Nat → Nat → Int} {w : Nat} {x1 x3 x5 x6 : Int} (hw : B 18 0 = w) (e : Int) (he : EV B e) : EV (upW B w x1 x3 x5 x6) e ∧ kd (upW B w x1 x3 x5 x6 6) e = kd (B 6) e := by
  rcases he with he | ⟨e0, e1, e2, e3⟩
  · refine ⟨Or.inl he, ?_⟩
    unfold kd
    rw [if_pos he, if_pos he]
  · have hne : (e / 9).toNat ≠ w := by omega
    refine ⟨Or.inr ⟨e0, e1, ?_, ?_⟩, ?_⟩
    · show e / 9 < uz (B 18) 0 ((w : Int) + 1) 0
      rw [uz_at]
      omega
    · rcases e3 with e3 | ⟨e3, e4⟩
      · exact Or.inl e3
      · refine Or.inr ⟨?_, ?_⟩
        · show e % 9 - 1 < uz (B 18) 0 ((w : Int) + 1) 1
          rw [uz_ne _ _ (by decide)]
          exact e3
        · show B 11 (e % 9 - 1).toNat = uz (B 7) w x6 (e / 9).toNat
          rw [uz_ne _ _ hne]
          exact e4
    · unfold kd
      rw [if_neg (by omega), if_neg (by omega)]
      show uz (B 6) w x5 (e / 9).toNat = _
      rw [uz_ne _ _ hne]
theorem GD_word {k w : Nat} {B : Nat → Nat → Int} {sc : Nat → Int} {x1 x3 x5 x6 : Int} (hw : B 18 0 = w) (h60 : w < 60) (r1 : ∃ n, isR 6 6 50 x1 n) (r3 : ∃ n, isR 14 4 16383 x3 n) (r5 : 0 ≤ x5 ∧ x5 ≤ 7) (r6 : -1 ≤ x6 ∧ x6 ≤ 5) (h1 : inL x1) (h3 : inL x3) (h : GD k B sc) : GD k (upW B w x1 x3 x5 x6) sc := by
  obtain ⟨g1, g2, g3, g4, g5⟩ := h
  refine ⟨?_, ?_, GS_cg rfl g3, SCo_cg rfl rfl g4, g5⟩
  · obtain ⟨b1, b2, b3, b4, b5⟩ := g1
    refine ⟨fun k i a b c => ?_, b2, b3, b4, b5⟩
    unfold upW upB
    by_cases h18 : k = 18
    · rw [if_pos h18]
      exact uz_inI (fun i => b1 18 i (by decide) (by decide) (by decide)) (by omega) i
    · rw [if_neg h18]
      by_cases h7 : k = 7
      · rw [if_pos h7]
        exact uz_inI (fun i => b1 7 i (by decide) (by decide) (by decide)) (by omega) i
      · rw [if_neg h7]
        by_cases h6 : k = 6
        · rw [if_pos h6]
          exact uz_inI (fun i => b1 6 i (by decide) (by decide) (by decide)) (by omega) i
        · rw [if_neg h6, if_neg b, if_neg a]
          exact b1 k i a b c
  · obtain ⟨a1, a2, a3, a4, a5⟩ := g2
    refine ⟨?_, ?_, fun w' hw' => ?_, fun e he => ?_, fun i => ?_⟩
    · show 0 ≤ uz (B 18) 0 ((w : Int) + 1) 0 ∧ uz (B 18) 0 ((w : Int) + 1) 0 ≤ 60
      rw [uz_at]
      omega
    · show 0 ≤ uz (B 18) 0 ((w : Int) + 1) 1 ∧ uz (B 18) 0 ((w : Int) + 1) 1 ≤ 8
      rw [uz_ne _ _ (by decide)]
      exact a2
    · have hw' : (w' : Int) < uz (B 18) 0 ((w : Int) + 1) 0 := hw'
      rw [uz_at] at hw'
      show (∃ n, isR 6 6 50 (uz (B 4) w x1 w') n) ∧ (∃ n, isR 14 4 16383 (uz (B 5) w x3 w') n) ∧ (0 ≤ uz (B 6) w x5 w' ∧ uz (B 6) w x5 w' ≤ 7) ∧ (-1 ≤ uz (B 7) w x6 w' ∧ uz (B 7) w x6 w' ≤ 5)
      by_cases hq : w' = w
      · rw [hq, uz_at, uz_at, uz_at, uz_at]
        exact ⟨r1, r3, r5, r6⟩
      · rw [uz_ne _ _ hq, uz_ne _ _ hq, uz_ne _ _ hq, uz_ne _ _ hq]
        exact a3 w' (by omega)
    · have he : (e : Int) < uz (B 18) 0 ((w : Int) + 1) 1 := he
      rw [uz_ne _ _ (by decide)] at he
      exact a4 e he
    · show inL (uz (B 4) w x1 i) ∧ inL (uz (B 5) w x3 i) ∧ inL (B 9 i)
      exact ⟨uz_inL (fun j => (a5 j).1) h1 i, uz_inL (fun j => (a5 j).2.1) h3 i, (a5 i).2.2⟩
theorem z_ending {B : Nat → Nat → Int} (hW : GW B) {x1 x3 x4 x5 : Int} (h1 : inL x1) (h3 : inI x3) (h4 : inI x4) (h5 : inI x5) (lk lp rk vc code ir im : Int) :
    (∃ cd rv rv' : Int, ANS cd rv rv' ∧ m_X8_ending x1 x3 x4 x5 (B 18 1) (B 9) (B 10) (B 11) (B 12) lk lp rk vc = some (cd, rv, B 18 1, B 9, B 10, B 11, B 12, lk, lp, rk, vc) ∧ m_X9_ending x1 x3 x4 x5 code (B 9) (B 10) (B 11) (B 12) (B 18 1) ir im = some (rv', cd, B 9, B 10, B 11, B 12, B 18 1, ir, im)) ∨
    (∃ w : Nat, B 18 1 = w ∧ w < 8 ∧ (∃ n, isR 6 3 50 x1 n) ∧ (1 ≤ x3 ∧ x3 ≤ 16383) ∧ (0 ≤ x4 ∧ x4 ≤ 5) ∧ (0 ≤ x5 ∧ x5 ≤ 60) ∧ m_X8_ending x1 x3 x4 x5 (B 18 1) (B 9) (B 10) (B 11) (B 12) lk lp rk vc = some (0, (w : Int), (w : Int) + 1, uz (B 9) w x1, uz (B 10) w x3, uz (B 11) w x4, uz (B 12) w x5, 0, -1, 0, 0) ∧ m_X9_ending x1 x3 x4 x5 code (B 9) (B 10) (B 11) (B 12) (B 18 1) ir im = some ((w : Int), 0, uz (B 9) w x1, uz (B 10) w x3, uz (B 11) w x4, uz (B 12) w x5, (w : Int) + 1, 0, 0)) := by
  have hw := hW.2.1
  obtain ⟨v1, e1, q1⟩ := q_rowLength (r := x1) (x2 := 6) (x3 := 50) (x4 := 3) 6 3 (by omega) rfl rfl (by omega) h1
  obtain ⟨u1, f1, p1⟩ := q_isRow (r := x1) (x2 := 6) (x3 := 3) (top := 50) 6 3 (by omega) rfl rfl (by omega) h1
  have g1 : ((∃ n, isR 6 3 50 x1 n) ∧ (1 ≤ v1 ∧ v1 ≤ 3) ∧ u1 = 1) ∨ (v1 = 0 ∧ u1 = 0) := by
    rcases q1 with ⟨q1, q2⟩ | ⟨n, q1, q2⟩
    · rcases p1 with ⟨p1, p2⟩ | ⟨p1, m, p2⟩
      · exact Or.inr ⟨q1, p1⟩
      · exact absurd p2 (q2 m)
    · rcases p1 with ⟨p1, p2⟩ | ⟨p1, m, p2⟩
      · exact absurd q2 (p2 n)
      · have := q2.1
        have := q2.2.1
        exact Or.inl ⟨⟨n, q2⟩, by omega, p1⟩
  clear q1 p1
  by_cases hc : v1 ≠ 0 ∧ (1 ≤ x3 ∧ x3 ≤ 16383) ∧ (0 ≤ x4 ∧ x4 ≤ 5) ∧ (0 ≤ x5 ∧ x5 ≤ 60)
  · have hv1 : 1 ≤ v1 ∧ v1 ≤ 3 ∧ u1 = 1 := by
      rcases g1 with g1 | g1
      · exact ⟨g1.2.1.1, g1.2.1.2, g1.2.2⟩
      · exact absurd g1.1 hc.1
    by_cases h60 : B 18 1 < 8
    · right
      have r1 : ∃ n, isR 6 3 50 x1 n := by
        rcases g1 with g1 | g1
        · exact g1.1
        · exact absurd g1.1 hc.1
      have ew : ((B 18 1).toNat : Int) = B 18 1 := by omega
      refine ⟨(B 18 1).toNat, by omega, by omega, r1, hc.2.1, hc.2.2.1, hc.2.2.2, ?_, ?_⟩
      · clear g1
        rw [ew]
        apply wp_out
        unfold m_X8_ending m_X8_bookChanged m_X5_forget m_X8_lineChanged m_X3_forget m_X2_forget
        rw [e1, q_addEnding (by omega)]
        ((repeat' first | with_reducible refine wp_gd ?_ ?_ | with_reducible refine wp_vl ?_ | with_reducible refine wp_if (fun _ => ?_) (fun _ => ?_) | (with_reducible refine wp_eq rfl ?_; try dsimp only)) <;> first | omega | exact wp_some rfl)
      · clear g1
        rw [ew]
        apply wp_out
        unfold m_X9_ending m_X9_ending_52 m_X9_fail m_X9_changed
        rw [f1]
        (repeat' first | with_reducible refine wp_gd ?_ ?_ | with_reducible refine wp_vl ?_ | with_reducible refine wp_if (fun _ => ?_) (fun _ => ?_) | (with_reducible refine wp_eq rfl ?_; try dsimp only)) <;> first | omega | (refine wp_some ?_; rw [Int.add_sub_cancel])
    · left
      refine ⟨0, -1, -1, Or.inr ⟨rfl, rfl, by decide⟩, ?_, ?_⟩
      · clear g1
        apply wp_out
        unfold m_X8_ending m_X1_addEnding m_X8_bookChanged m_X5_forget m_X8_lineChanged m_X3_forget m_X2_forget
        rw [e1]
        ((repeat' first | with_reducible refine wp_gd ?_ ?_ | with_reducible refine wp_vl ?_ | with_reducible refine wp_if (fun _ => ?_) (fun _ => ?_) | (with_reducible refine wp_eq rfl ?_; try dsimp only)) <;> first | omega | exact wp_some rfl)
      · clear g1
        apply wp_out
        unfold m_X9_ending m_X9_ending_52 m_X9_fail m_X9_changed
        rw [f1]
        ((repeat' first | with_reducible refine wp_gd ?_ ?_ | with_reducible refine wp_vl ?_ | with_reducible refine wp_if (fun _ => ?_) (fun _ => ?_) | (with_reducible refine wp_eq rfl ?_; try dsimp only)) <;> first | omega | exact wp_some rfl)
  · left
    have g1' : (1 ≤ v1 ∧ v1 ≤ 3 ∧ u1 = 1) ∨ (v1 = 0 ∧ u1 = 0) := by
      rcases g1 with g1 | g1
      · exact Or.inl ⟨g1.2.1.1, g1.2.1.2, g1.2.2⟩
      · exact Or.inr g1
    clear g1
    refine ⟨1, 0, 0, Or.inl rfl, ?_, ?_⟩
    · apply wp_out
      unfold m_X8_ending m_X1_addEnding m_X8_bookChanged m_X5_forget m_X8_lineChanged m_X3_forget m_X2_forget
      rw [e1]
      ((repeat' first | with_reducible refine wp_gd ?_ ?_ | with_reducible refine wp_vl ?_ | with_reducible refine wp_if (fun _ => ?_) (fun _ => ?_) | (with_reducible refine wp_eq rfl ?_; try dsimp only)) <;> first | omega | exact wp_some rfl)
    · apply wp_out
      unfold m_X9_ending m_X9_ending_52 m_X9_fail m_X9_changed
      rw [f1]
      ((repeat' first | with_reducible refine wp_gd ?_ ?_ | with_reducible refine wp_vl ?_ | with_reducible refine wp_if (fun _ => ?_) (fun _ => ?_) | (with_reducible refine wp_eq rfl ?_; try dsimp only)) <;> first | omega | exact wp_some rfl)
/-- the book with one more ending -/
def upE (B : Nat → Nat → Int) (w : Nat) (x1 x3 x4 x5 : Int) : Nat → Nat → Int := upB (upB (upB (upB (upB B 9 (uz (B 9) w x1)) 10 (uz (B 10) w x3)) 11 (uz (B 11) w x4)) 12 (uz (B 12) w x5)) 18 (uz (B 18) 1 ((w : Int) + 1))
theorem EV_ending {B : Nat → Nat → Int} {w : Nat} {x1 x3 x4 x5 : Int} (hw : B 18 1 = w) (e : Int) (he : EV B e) : EV (upE B w x1 x3 x4 x5) e ∧ kd (upE B w x1 x3 x4 x5 6) e = kd (B 6) e := by
  refine ⟨?_, rfl⟩
  rcases he with he | ⟨e0, e1, e2, e3⟩
  · exact Or.inl he
  · refine Or.inr ⟨e0, e1, ?_, ?_⟩
    · show e / 9 < uz (B 18) 1 ((w : Int) + 1) 0
      rw [uz_ne _ _ (by decide)]
      exact e2
    · rcases e3 with e3 | ⟨e3, e4⟩
      · exact Or.inl e3
      · by_cases h0 : e % 9 = 0
        · exact Or.inl h0
        · have hne : (e % 9 - 1).toNat ≠ w := by omega
          refine Or.inr ⟨?_, ?_⟩
          · show e % 9 - 1 < uz (B 18) 1 ((w : Int) + 1) 1
            rw [uz_at]
            omega
          · show uz (B 11) w x4 (e % 9 - 1).toNat = B 7 (e / 9).toNat
            rw [uz_ne _ _ hne]
            exact e4
theorem GD_ending {k w : Nat} {B : Nat → Nat → Int} {sc : Nat → Int} {x1 x3 x4 x5 : Int} (hw : B 18 1 = w) (h60 : w < 8) (r1 : ∃ n, isR 6 3 50 x1 n) (r3 : 1 ≤ x3 ∧ x3 ≤ 16383) (r5 : 0 ≤ x4 ∧ x4 ≤ 5) (r6 : 0 ≤ x5 ∧ x5 ≤ 60) (h1 : inL x1) (h : GD k B sc) : GD k (upE B w x1 x3 x4 x5) sc := by
  obtain ⟨g1, g2, g3, g4, g5⟩ := h
  refine ⟨?_, ?_, GS_cg rfl g3, SCo_cg rfl rfl g4, g5⟩
  · obtain ⟨b1, b2, b3, b4, b5⟩ := g1
    refine ⟨fun k i a b c => ?_, b2, b3, b4, b5⟩
    unfold upE upB
    by_cases h18 : k = 18
    · rw [if_pos h18]
      exact uz_inI (fun i => b1 18 i (by decide) (by decide) (by decide)) (by omega) i
    · rw [if_neg h18]
      by_cases h12 : k = 12
      · rw [if_pos h12]
        exact uz_inI (fun i => b1 12 i (by decide) (by decide) (by decide)) (by omega) i
      · rw [if_neg h12]
        by_cases h11 : k = 11
        · rw [if_pos h11]
          exact uz_inI (fun i => b1 11 i (by decide) (by decide) (by decide)) (by omega) i
        · rw [if_neg h11]
          by_cases h10 : k = 10
          · rw [if_pos h10]
            exact uz_inI (fun i => b1 10 i (by decide) (by decide) (by decide)) (by omega) i
          · rw [if_neg h10, if_neg c]
            exact b1 k i a b c
  · obtain ⟨a1, a2, a3, a4, a5⟩ := g2
    refine ⟨?_, ?_, fun w' hw' => ?_, fun e he => ?_, fun i => ?_⟩
    · show 0 ≤ uz (B 18) 1 ((w : Int) + 1) 0 ∧ uz (B 18) 1 ((w : Int) + 1) 0 ≤ 60
      rw [uz_ne _ _ (by decide)]
      exact a1
    · show 0 ≤ uz (B 18) 1 ((w : Int) + 1) 1 ∧ uz (B 18) 1 ((w : Int) + 1) 1 ≤ 8
      rw [uz_at]
      omega
    · have hw' : (w' : Int) < uz (B 18) 1 ((w : Int) + 1) 0 := hw'
      rw [uz_ne _ _ (by decide)] at hw'
      exact a3 w' hw'
    · have he : (e : Int) < uz (B 18) 1 ((w : Int) + 1) 1 := he
      rw [uz_at] at he
      show (∃ n, isR 6 3 50 (uz (B 9) w x1 e) n) ∧ (1 ≤ uz (B 10) w x3 e ∧ uz (B 10) w x3 e ≤ 16383) ∧ (0 ≤ uz (B 11) w x4 e ∧ uz (B 11) w x4 e ≤ 5) ∧ (0 ≤ uz (B 12) w x5 e ∧ uz (B 12) w x5 e ≤ 60)
      by_cases hq : e = w
      · rw [hq, uz_at, uz_at, uz_at, uz_at]
        exact ⟨r1, r3, r5, r6⟩
      · rw [uz_ne _ _ hq, uz_ne _ _ hq, uz_ne _ _ hq, uz_ne _ _ hq]
        exact a4 e (by omega)
    · show inL (B 4 i) ∧ inL (B 5 i) ∧ inL (uz (B 9) w x1 i)
      exact ⟨(a5 i).1, (a5 i).2.1, uz_inL (fun j => (a5 j).2.2) h1 i⟩
/-- a spelling is added, on the class's side -/
theorem q_addSpelling {B : Nat → Nat → Int} (hB : GB B) {s m : Nat} (hs : s < 50) (hm : B 0 s = m) {x1 x2 x3 x4 : Int} (e1 : x1 = s) (h2 : inI x2) :
    wp (m_X1_addSpelling x1 x2 x3 x4 (B 0) (B 1) (B 2) (B 3)) (fun u => ((m < 3 ∧ ∀ j, j < m → B 1 (3 * s + j) ≠ x2) ∧ u = (1, uz (B 0) s ((m : Int) + 1), uz (B 1) (3 * s + m) x2, uz (B 2) (3 * s + m) x3, uz (B 3) (3 * s + m) x4)) ∨ (¬ (m < 3 ∧ ∀ j, j < m → B 1 (3 * s + j) ≠ x2) ∧ u = (0, B 0, B 1, B 2, B 3))) := by
  have ex : x1.toNat = s := by omega
  have h3 := (hB.2.1 s hs).2
  unfold m_X1_addSpelling
  refine wp_vl (wp_gd (by omega) (wp_vl ?_))
  rw [ex, hm]
  refine wp_gd (by omega) (wp_if (fun c => ?_) (fun c => ?_))
  · refine wp_bind (P := fun u : Nat × Int => (u.1 = 1 ∧ ∀ j, j < m → B 1 (3 * s + j) ≠ x2) ∨ (u.1 ≠ 1 ∧ ¬ ∀ j, j < m → B 1 (3 * s + j) ≠ x2)) (wp_loop (fun k y => y = ((3 * s + k : Nat) : Int) ∧ ∀ j, j < k → B 1 (3 * s + j) ≠ x2) m (by omega) ⟨by omega, fun j hj => absurd hj (by omega)⟩ ?_) ?_
    · intro k y hk hst
      obtain ⟨ey, hst⟩ := hst
      unfold m_X1_addSpelling_25
      have et : y.toNat = 3 * s + k := by omega
      rw [et]
      refine wp_gd (by omega) (wp_gd (by omega) (wp_if (fun c1 => ?_) (fun c1 => ?_)))
      · refine wp_end (by decide) (Or.inl ⟨rfl, ?_⟩)
        intro j hj
        exact hst j (by omega)
      · refine wp_gd (by omega) (wp_gd (hB.1 1 _ (by decide) (by decide) (by decide)) (wp_gd h2 (wp_if (fun c2 => ?_) (fun c2 => ?_))))
        · exact wp_end (by decide) (Or.inr ⟨by show (2 : Nat) ≠ 1; decide, fun z => z k (by omega) c2⟩)
        · refine wp_vl (wp_go ⟨by omega, ?_, ?_⟩)
          · show y + 1 = _
            omega
          · intro j hj
            by_cases hjk : j = k
            · rw [hjk]
              exact c2
            · exact hst j (by omega)
    · rintro ⟨t25, x25⟩ hu
      rcases hu with ⟨hu, hall⟩ | ⟨hu, hno⟩
      · have hu : t25 = 1 := hu
        subst hu
        show wp (if (1 : Nat) = 1 then _ else _) _
        rw [if_pos rfl]
        have ei : (x1 * 3 + (m : Int)).toNat = 3 * s + m := by omega
        rw [ei]
        refine wp_gd (by omega) (wp_vl (wp_gd (by omega) (wp_vl (wp_gd (by omega) (wp_vl (wp_gd (by omega) (wp_gd (by omega) (wp_vl (wp_some (Or.inl ⟨⟨by omega, hall⟩, rfl⟩))))))))))
      · have hu : t25 ≠ 1 := hu
        show wp (if t25 = 1 then _ else _) _
        rw [if_neg hu]
        exact wp_some (Or.inr ⟨fun z => hno z.2, rfl⟩)
  · exact wp_some (Or.inr ⟨fun z => absurd z.1 (by omega), rfl⟩)
/-- .. and on the reference's -/
theorem q_rspell {B : Nat → Nat → Int} (hB : GB B) {s m : Nat} (hs : s < 50) (hm : B 0 s = m) {x1 x2 x4 t0 : Int} (e1 : x1 = s) (h2 : inI x2) (ht : (t0 = 0 ∧ m < 3) ∨ (t0 = 1 ∧ m = 3)) (code ir im : Int) :
    wp (m_X9_spelling_58 x1 x2 x4 t0 code (B 0) (B 3) (B 1) ir im) (fun u => ((m < 3 ∧ ∀ j, j < m → B 1 (3 * s + j) ≠ x2) ∧ u = ((m : Int) + 1, code, uz (B 0) s ((m : Int) + 1), uz (B 3) (3 * s + m) x4, uz (B 1) (3 * s + m) x2, 0, 0)) ∨ (¬ (m < 3 ∧ ∀ j, j < m → B 1 (3 * s + j) ≠ x2) ∧ u = (-1, code, B 0, B 3, B 1, ir, im))) := by
  have ex : x1.toNat = s := by omega
  have h3 := (hB.2.1 s hs).2
  unfold m_X9_spelling_58
  refine wp_bind (P := fun u : Nat × Int × Int => (u.2.1 = 0 ∧ t0 = 0 ∧ ∀ j, j < m → B 1 (3 * s + j) ≠ x2) ∨ (u.2.1 = 1 ∧ ¬ (t0 = 0 ∧ ∀ j, j < m → B 1 (3 * s + j) ≠ x2))) (wp_loop (fun k y => y.2 = (k : Int) ∧ ((y.1 = 0 ∧ t0 = 0 ∧ ∀ j, j < k → B 1 (3 * s + j) ≠ x2) ∨ (y.1 = 1 ∧ ¬ (t0 = 0 ∧ ∀ j, j < k → B 1 (3 * s + j) ≠ x2)))) m (by omega) ⟨rfl, ?_⟩ ?_) ?_
  · rcases ht with ⟨ht, _⟩ | ⟨ht, _⟩
    · exact Or.inl ⟨ht, ht, fun j hj => absurd hj (by omega)⟩
    · exact Or.inr ⟨ht, fun z => absurd z.1 (by omega)⟩
  · intro k y hk hst
    obtain ⟨ey, hst⟩ := hst
    unfold m_X9_spelling_63
    have et : (3 * x1 + y.2).toNat = 3 * s + k := by omega
    rw [et, ex, hm]
    refine wp_gd (by omega) (wp_gd (by omega) (wp_gd (by omega) (wp_if (fun c1 => ?_) (fun c1 => ?_))))
    · have hkm : k = m := by omega
      subst hkm
      exact wp_end (by decide) hst
    · have hbI := hB.1 1 (3 * s + k) (by decide) (by decide) (by decide)
      refine wp_gd (by omega) (wp_gd (by omega) (wp_gd (by omega) (wp_if (fun c2 => ?_) (fun c2 => ?_))))
      · refine wp_vl (wp_go ⟨by omega, by show y.2 + 1 = _; omega, Or.inr ⟨rfl, fun z => z.2 k (by omega) c2⟩⟩)
      · refine wp_vl (wp_go ⟨by omega, by show y.2 + 1 = _; omega, ?_⟩)
        rcases hst with ⟨q1, q2, q3⟩ | ⟨q1, q2⟩
        · refine Or.inl ⟨q1, q2, fun j hj => ?_⟩
          by_cases hjk : j = k
          · rw [hjk]
            exact c2
          · exact q3 j (by omega)
        · exact Or.inr ⟨q1, fun z => q2 ⟨z.1, fun j hj => z.2 j (by omega)⟩⟩
  · rintro ⟨t63, x5, x6⟩ hu
    have hu : (x5 = 0 ∧ t0 = 0 ∧ ∀ j, j < m → B 1 (3 * s + j) ≠ x2) ∨ (x5 = 1 ∧ ¬ (t0 = 0 ∧ ∀ j, j < m → B 1 (3 * s + j) ≠ x2)) := hu
    show wp (gd (inI x5) _) _
    rcases hu with ⟨q1, q2, q3⟩ | ⟨q1, q2⟩
    · have hm3 : m < 3 := by omega
      have ei : (3 * x1 + (m : Int)).toNat = 3 * s + m := by omega
      refine wp_gd (by omega) (wp_if (fun _ => ?_) (fun c => absurd q1 c))
      rw [ex, hm, ei]
      refine wp_gd (by omega) (wp_gd (by omega) (wp_vl (wp_gd (by omega) (wp_gd (by omega) (wp_vl (wp_gd (by omega) (wp_gd (by omega) (wp_vl (wp_eq rfl (wp_gd (by omega) (wp_some (Or.inl ⟨⟨hm3, q3⟩, ?_⟩))))))))))))
      rw [uz_at]
    · refine wp_gd (by omega) (wp_if (fun c => absurd c (by omega)) (fun _ => wp_some (Or.inr ⟨fun z => q2 ⟨by omega, z.2⟩, rfl⟩)))
def upP (B : Nat → Nat → Int) (s m : Nat) (x2 n x4 : Int) : Nat → Nat → Int := upB (upB (upB (upB B 0 (uz (B 0) s ((m : Int) + 1))) 1 (uz (B 1) (3 * s + m) x2)) 2 (uz (B 2) (3 * s + m) n)) 3 (uz (B 3) (3 * s + m) x4)
theorem z_spelling {B : Nat → Nat → Int} (hB : GB B) {x1 x2 x4 : Int} (h1 : inI x1) (h2 : inL x2) (h4 : inI x4) (lk lp rk vc code ir im : Int) :
    (∃ cd rv rv' : Int, ANS cd rv rv' ∧ m_X8_spelling x1 x2 x4 (B 0) (B 1) (B 2) (B 3) lk lp rk vc = some (cd, rv, B 0, B 1, B 2, B 3, lk, lp, rk, vc) ∧ m_X9_spelling x1 x2 x4 code (B 0) (B 3) (B 1) ir im = some (rv', cd, B 0, B 3, B 1, ir, im)) ∨
    (∃ s m n : Nat, s < 50 ∧ B 0 s = m ∧ m < 3 ∧ isR 5 4 26 x2 n ∧ (0 ≤ x4 ∧ x4 ≤ 40) ∧ m_X8_spelling x1 x2 x4 (B 0) (B 1) (B 2) (B 3) lk lp rk vc = some (0, (m : Int) + 1, uz (B 0) s ((m : Int) + 1), uz (B 1) (3 * s + m) x2, uz (B 2) (3 * s + m) n, uz (B 3) (3 * s + m) x4, 0, -1, 0, 0) ∧ m_X9_spelling x1 x2 x4 code (B 0) (B 3) (B 1) ir im = some ((m : Int) + 1, 0, uz (B 0) s ((m : Int) + 1), uz (B 3) (3 * s + m) x4, uz (B 1) (3 * s + m) x2, 0, 0)) := by
  obtain ⟨v1, e1, q1⟩ := q_rowLength (r := x2) (x2 := 5) (x3 := 26) (x4 := 4) 5 4 (by omega) rfl rfl (by omega) h2
  obtain ⟨u1, f1, p1⟩ := q_isRow (r := x2) (x2 := 5) (x3 := 4) (top := 26) 5 4 (by omega) rfl rfl (by omega) h2
  have g1 : (∃ n, isR 5 4 26 x2 n ∧ v1 = n ∧ u1 = 1) ∨ (v1 = 0 ∧ u1 = 0) := by
    rcases q1 with ⟨q1, q2⟩ | ⟨n, q1, q2⟩
    · rcases p1 with ⟨p1, p2⟩ | ⟨p1, m, p2⟩
      · exact Or.inr ⟨q1, p1⟩
      · exact absurd p2 (q2 m)
    · rcases p1 with ⟨p1, p2⟩ | ⟨p1, m, p2⟩
      · exact absurd q2 (p2 n)
      · exact Or.inl ⟨n, q2, q1, p1⟩
  clear q1 p1
  by_cases hc : (0 ≤ x1 ∧ x1 < 50) ∧ v1 ≠ 0 ∧ (0 ≤ x4 ∧ x4 ≤ 40)
  · rcases g1 with ⟨n, rn, n1, n2⟩ | g1
    · obtain ⟨s, es⟩ : ∃ s : Nat, x1 = s := ⟨x1.toNat, by omega⟩
      have hs : s < 50 := by omega
      have hb0 := hB.2.1 s hs
      obtain ⟨m, em⟩ : ∃ m : Nat, B 0 s = m := ⟨(B 0 s).toNat, by omega⟩
      have hr1 := rn.1
      have hr2 := rn.2.1
      have hr3 := rn.2.2.1
      have hlt := isR_lt rn
      have hle := pw_le (show 5 * n ≤ 20 by omega)
      have h20 : (2 : Int) ^ 20 = 1048576 := by decide
      have hI2 : inI x2 := by omega
      have ex : x1.toNat = s := by omega
      obtain ⟨a, ea, ha⟩ := q_addSpelling hB hs em (x1 := x1) (x2 := x2) (x3 := v1) (x4 := x4) es hI2
      have hr : wp (m_X9_spelling x1 x2 x4 code (B 0) (B 3) (B 1) ir im) (fun u => ((m < 3 ∧ ∀ j, j < m → B 1 (3 * s + j) ≠ x2) ∧ u = ((m : Int) + 1, 0, uz (B 0) s ((m : Int) + 1), uz (B 3) (3 * s + m) x4, uz (B 1) (3 * s + m) x2, 0, 0)) ∨ (¬ (m < 3 ∧ ∀ j, j < m → B 1 (3 * s + j) ≠ x2) ∧ u = (-1, 0, B 0, B 3, B 1, ir, im))) := by
        unfold m_X9_spelling
        refine wp_gd h1 (wp_if (fun c => absurd c (by omega)) (fun _ => wp_if (fun c => absurd c (by omega)) (fun _ => wp_eq f1 (wp_gd (by omega) (wp_if (fun c => absurd c (by omega)) (fun _ => wp_gd h4 (wp_if (fun c => absurd c (by omega)) (fun _ => wp_if (fun _ => ?_) (fun c => absurd hc.2.2.2 c)))))))))
        rw [ex, em]
        refine wp_gd (by omega) (wp_gd (by omega) (wp_if (fun c => ?_) (fun c => ?_)))
        · exact q_rspell hB hs em es hI2 (Or.inr ⟨rfl, by omega⟩) 0 ir im
        · exact q_rspell hB hs em es hI2 (Or.inl ⟨rfl, by omega⟩) 0 ir im
      obtain ⟨u, eu, hu⟩ := hr
      by_cases hd : m < 3 ∧ ∀ j, j < m → B 1 (3 * s + j) ≠ x2
      · right
        have ha := (ha.resolve_right (fun z => z.1 hd)).2
        have hu := (hu.resolve_right (fun z => z.1 hd)).2
        refine ⟨s, m, n, hs, em, hd.1, rn, hc.2.2, ?_, by rw [eu, hu]⟩
        apply wp_out
        unfold m_X8_spelling m_X8_bookChanged m_X5_forget m_X8_lineChanged m_X3_forget m_X2_forget
        refine wp_eq e1 (wp_gd h1 (wp_if (fun c => absurd c (by omega)) (fun _ => wp_if (fun c => absurd c (by omega)) (fun _ => wp_gd (by omega) (wp_if (fun c => absurd c (by omega)) (fun _ => wp_gd h4 (wp_if (fun c => absurd c (by omega)) (fun _ => wp_if (fun _ => ?_) (fun c => absurd hc.2.2.2 c)))))))))
        refine wp_eq (ea.trans (congrArg some ha)) ?_
        refine wp_gd (by decide) (wp_if (fun c => absurd c (by decide)) (fun _ => wp_eq rfl (wp_gd (by omega) (wp_some ?_))))
        rw [ex, uz_at, n1]
      · left
        have ha := (ha.resolve_left (fun z => hd z.1)).2
        have hu := (hu.resolve_left (fun z => hd z.1)).2
        refine ⟨0, -1, -1, Or.inr ⟨rfl, rfl, by decide⟩, ?_, by rw [eu, hu]⟩
        apply wp_out
        unfold m_X8_spelling
        refine wp_eq e1 (wp_gd h1 (wp_if (fun c => absurd c (by omega)) (fun _ => wp_if (fun c => absurd c (by omega)) (fun _ => wp_gd (by omega) (wp_if (fun c => absurd c (by omega)) (fun _ => wp_gd h4 (wp_if (fun c => absurd c (by omega)) (fun _ => wp_if (fun _ => ?_) (fun c => absurd hc.2.2.2 c)))))))))
        refine wp_eq (ea.trans (congrArg some ha)) ?_
        exact wp_gd (by decide) (wp_if (fun _ => wp_some rfl) (fun c => absurd rfl c))
    · exact absurd g1.1 hc.2.1
  · left
    have g1' : (1 ≤ v1 ∧ v1 ≤ 4 ∧ u1 = 1) ∨ (v1 = 0 ∧ u1 = 0) := by
      rcases g1 with ⟨n, rn, n1, n2⟩ | g1
      · have hr1 := rn.1
        have hr2 := rn.2.1
        exact Or.inl ⟨by omega, by omega, n2⟩
      · exact Or.inr g1
    clear g1
    refine ⟨1, 0, 0, Or.inl rfl, ?_, ?_⟩
    · apply wp_out
      unfold m_X8_spelling
      rw [e1]
      ((repeat' first | with_reducible refine wp_gd ?_ ?_ | with_reducible refine wp_vl ?_ | with_reducible refine wp_if (fun _ => ?_) (fun _ => ?_) | (with_reducible refine wp_eq rfl ?_; try dsimp only)) <;> first | omega | exact wp_some rfl)
    · apply wp_out
      unfold m_X9_spelling m_X9_spelling_38 m_X9_fail
      rw [f1]
      ((repeat' first | with_reducible refine wp_gd ?_ ?_ | with_reducible refine wp_vl ?_ | with_reducible refine wp_if (fun _ => ?_) (fun _ => ?_) | (with_reducible refine wp_eq rfl ?_; try dsimp only)) <;> first | omega | exact wp_some rfl)
theorem GD_spelling {k s m n : Nat} {B : Nat → Nat → Int} {sc : Nat → Int} {x2 x4 : Int} (hs : s < 50) (hm : B 0 s = m) (h3 : m < 3) (rn : isR 5 4 26 x2 n) (r4' : 0 ≤ x4 ∧ x4 ≤ 40) (h : GD k B sc) : GD k (upP B s m x2 n x4) sc := by
  obtain ⟨g1, g2, g3, g4, g5⟩ := h
  have hr1 := rn.1
  have hr2 := rn.2.1
  have hr3 := rn.2.2.1
  have hlt := isR_lt rn
  have hle := pw_le (show 5 * n ≤ 20 by omega)
  have h20 : (2 : Int) ^ 20 = 1048576 := by decide
  refine ⟨?_, GW_cg rfl rfl rfl rfl rfl rfl rfl rfl rfl g2, GS_cg rfl g3, SCo_cg rfl rfl g4, g5⟩
  obtain ⟨b1, b2, b3, b4, b5⟩ := g1
  refine ⟨fun k i a b c => ?_, fun s' hs' => ?_, fun i hi => ?_, fun s' j hs' hj => ?_, b5⟩
  · unfold upP upB
    by_cases k3 : k = 3
    · rw [if_pos k3]
      exact uz_inI (fun i => b1 3 i (by decide) (by decide) (by decide)) (by omega) i
    · rw [if_neg k3]
      by_cases k2 : k = 2
      · rw [if_pos k2]
        exact uz_inI (fun i => b1 2 i (by decide) (by decide) (by decide)) (by omega) i
      · rw [if_neg k2]
        by_cases k1 : k = 1
        · rw [if_pos k1]
          exact uz_inI (fun i => b1 1 i (by decide) (by decide) (by decide)) (by omega) i
        · rw [if_neg k1]
          by_cases k0 : k = 0
          · rw [if_pos k0]
            exact uz_inI (fun i => b1 0 i (by decide) (by decide) (by decide)) (by omega) i
          · rw [if_neg k0]
            exact b1 k i a b c
  · show 0 ≤ uz (B 0) s ((m : Int) + 1) s' ∧ uz (B 0) s ((m : Int) + 1) s' ≤ 3
    by_cases hq : s' = s
    · rw [hq, uz_at]
      omega
    · rw [uz_ne _ _ hq]
      exact b2 s' hs'
  · show 0 ≤ uz (B 2) (3 * s + m) n i ∧ uz (B 2) (3 * s + m) n i ≤ 4 ∧ 0 ≤ uz (B 3) (3 * s + m) x4 i ∧ uz (B 3) (3 * s + m) x4 i ≤ 40
    by_cases hq : i = 3 * s + m
    · rw [hq, uz_at, uz_at]
      omega
    · rw [uz_ne _ _ hq, uz_ne _ _ hq]
      exact b3 i hi
  · have hj : (j : Int) < uz (B 0) s ((m : Int) + 1) s' := hj
    show ∃ n' : Nat, isR 5 4 26 (uz (B 1) (3 * s + m) x2 (3 * s' + j)) n' ∧ uz (B 2) (3 * s + m) n (3 * s' + j) = n'
    by_cases hq : 3 * s' + j = 3 * s + m
    · rw [hq, uz_at, uz_at]
      exact ⟨n, rn, rfl⟩
    · rw [uz_ne _ _ hq, uz_ne _ _ hq]
      refine b4 s' j hs' ?_
      by_cases hss : s' = s
      · rw [hss, uz_at] at hj
        rw [hss]
        omega
      · rw [uz_ne _ _ hss] at hj
        exact hj
