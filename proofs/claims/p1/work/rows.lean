section
/-! numbers of the machine seen as Int; guards; loops with fuel -/
def zi (x : Int) : Int32 := Int32.ofInt x
def zl (x : Int) : Int64 := Int64.ofInt x
abbrev inI (x : Int) : Prop := -2147483648 ≤ x ∧ x < 2147483648
abbrev inL (x : Int) : Prop := -9223372036854775808 ≤ x ∧ x < 9223372036854775808
def gd {α : Type} (c : Prop) [Decidable c] (k : Option α) : Option α := if c then k else none
def vl {α β : Type} (e : α) (k : α → Option β) : Option β := k e
def FU : Nat := 5000
def zloop {α : Type} (body : α → Option (Nat × α)) : Nat → α → Option (Nat × α)
  | 0, _ => none
  | n + 1, a => (body a).bind fun u => if u.1 = 0 then zloop body n u.2 else some u
theorem gd_e {α : Type} {c : Prop} [Decidable c] {k : Option α} {r : α} (h : gd c k = some r) : c ∧ k = some r := by
  unfold gd at h
  by_cases hc : c
  · rw [if_pos hc] at h; exact ⟨hc, h⟩
  · rw [if_neg hc] at h; cases h
theorem vl_e {α β : Type} {e : α} {k : α → Option β} {r : β} (h : vl e k = some r) : ∃ x, x = e ∧ k x = some r := ⟨e, rfl, h⟩
theorem bd_e {α β : Type} {o : Option α} {k : α → Option β} {r : β} (h : o.bind k = some r) : ∃ u, o = some u ∧ k u = some r := Option.bind_eq_some_iff.mp h
theorem if_p {α : Type} {c : Prop} [Decidable c] {a b : Option α} {r : α} (h : (if c then a else b) = some r) (hc : c) : a = some r := by rw [if_pos hc] at h; exact h
theorem if_n {α : Type} {c : Prop} [Decidable c] {a b : Option α} {r : α} (h : (if c then a else b) = some r) (hc : ¬ c) : b = some r := by rw [if_neg hc] at h; exact h
theorem zloop_ind {α : Type} {body : α → Option (Nat × α)} {P : α → Prop} {K : Nat × α → Prop} (hb : ∀ a u, body a = some u → (u.1 = 0 → P u.2) → (u.1 ≠ 0 → K u) → P a) : ∀ (n : Nat) (a : α) (u : Nat × α), zloop body n a = some u → (u.1 ≠ 0 → K u) → P a := by
  intro n
  induction n with
  | zero => intro a u h; cases h
  | succ n ih =>
    intro a u h hk
    obtain ⟨w, hw, h⟩ := bd_e h
    by_cases h0 : w.1 = 0
    · rw [if_pos h0] at h
      exact hb a w hw (fun _ => ih w.2 u h hk) (fun z => absurd h0 z)
    · rw [if_neg h0] at h
      cases h
      exact hb a _ hw (fun z => absurd z h0) hk
theorem zloop_ne {α : Type} {body : α → Option (Nat × α)} : ∀ (n : Nat) (a : α) (u : Nat × α), zloop body n a = some u → u.1 ≠ 0 := by
  intro n
  induction n with
  | zero => intro a u h; cases h
  | succ n ih =>
    intro a u h
    obtain ⟨w, hw, h⟩ := bd_e h
    by_cases h0 : w.1 = 0
    · rw [if_pos h0] at h
      exact ih w.2 u h
    · rw [if_neg h0] at h
      cases h
      exact h0
/-! facts of zi and zl -/
theorem zi_toInt {x : Int} (h : inI x) : (zi x).toInt = x := Int32.toInt_ofInt_of_le (by omega) (by omega)
theorem zl_toInt {x : Int} (h : inL x) : (zl x).toInt = x := Int64.toInt_ofInt_of_le (by omega) (by omega)
theorem zi_of (x : Int32) : zi x.toInt = x := Int32.ofInt_toInt x
theorem zl_of (x : Int64) : zl x.toInt = x := Int64.ofInt_toInt x
theorem zi_inI (x : Int32) : inI x.toInt := ⟨Int32.le_toInt x, Int32.toInt_lt x⟩
theorem zl_inL (x : Int64) : inL x.toInt := ⟨Int64.le_toInt x, Int64.toInt_lt x⟩
theorem zi_add (x y : Int) : zi x + zi y = zi (x + y) := (Int32.ofInt_add x y).symm
theorem zi_sub (x y : Int) : zi x - zi y = zi (x - y) := (Int32.ofInt_sub x y).symm
theorem zi_mul (x y : Int) : zi x * zi y = zi (x * y) := (Int32.ofInt_mul x y).symm
theorem zl_add (x y : Int) : zl x + zl y = zl (x + y) := (Int64.ofInt_add x y).symm
theorem zl_sub (x y : Int) : zl x - zl y = zl (x - y) := (Int64.ofInt_sub x y).symm
theorem zi_lt {x y : Int} (hx : inI x) (hy : inI y) : zi x < zi y ↔ x < y := by rw [Int32.lt_iff_toInt_lt, zi_toInt hx, zi_toInt hy]
theorem zi_le {x y : Int} (hx : inI x) (hy : inI y) : zi x ≤ zi y ↔ x ≤ y := by rw [Int32.le_iff_toInt_le, zi_toInt hx, zi_toInt hy]
theorem zi_eq {x y : Int} (hx : inI x) (hy : inI y) : zi x = zi y ↔ x = y := by rw [← Int32.toInt_inj, zi_toInt hx, zi_toInt hy]
theorem zl_lt {x y : Int} (hx : inL x) (hy : inL y) : zl x < zl y ↔ x < y := by rw [Int64.lt_iff_toInt_lt, zl_toInt hx, zl_toInt hy]
theorem zl_eq {x y : Int} (hx : inL x) (hy : inL y) : zl x = zl y ↔ x = y := by rw [← Int64.toInt_inj, zl_toInt hx, zl_toInt hy]
theorem zi_z : (0 : Int32) = zi 0 := by decide
theorem zi_clamp {x : Int} (h : 0 ≤ x) (h2 : x < 2147483648) : (zi x).toNatClampNeg = x.toNat := by
  rw [Int32.toNatClampNeg, zi_toInt ⟨by omega, h2⟩]
theorem zi_in {x : Int} {n : Nat} (h : 0 ≤ x ∧ x < (n : Int)) (hn : n ≤ 2147483648) : vp_in (zi x) n := by
  have h2 : x < 2147483648 := by omega
  intro hq
  rcases hq with hq | hq
  · rw [zi_z, zi_lt ⟨by omega, h2⟩ (by decide)] at hq
    omega
  · rw [zi_clamp h.1 h2] at hq
    omega
theorem zi_nat (n : Nat) : nI n = zi (n : Int) := by unfold nI zi; exact (Int32.ofInt_eq_ofNat (n := n)).symm
theorem zi_tn (x : Int) : (zi x).toBitVec.toNat = (x % 4294967296).toNat := by
  show (BitVec.ofInt 32 x).toNat = _
  rw [BitVec.toNat_ofInt]
  rfl
theorem zl_tn (x : Int) : (zl x).toBitVec.toNat = (x % 18446744073709551616).toNat := by
  show (BitVec.ofInt 64 x).toNat = _
  rw [BitVec.toNat_ofInt]
  rfl
theorem zi_cong {x y : Int} (h : x % 4294967296 = y % 4294967296) : zi x = zi y := by
  apply Int32.toBitVec_inj.mp
  apply BitVec.eq_of_toNat_eq
  rw [zi_tn, zi_tn, h]
theorem zl_cong {x y : Int} (h : x % 18446744073709551616 = y % 18446744073709551616) : zl x = zl y := by
  apply Int64.toBitVec_inj.mp
  apply BitVec.eq_of_toNat_eq
  rw [zl_tn, zl_tn, h]
theorem zi_sh : ∀ k : Fin 32, (((zi (k.val : Int) &&& 31) : Int32).toBitVec.smod 32).toNat = k.val := by decide +kernel
theorem zl_sh : ∀ k : Fin 64, ((((zi (k.val : Int)).toInt64 &&& 63) : Int64).toBitVec.smod 64).toNat = k.val := by decide +kernel
theorem zi_shr {x y : Int} (hx : inI x) (hy : 0 ≤ y ∧ y < 32) : zi x >>> (zi y &&& 31) = zi (x / 2 ^ y.toNat) := by
  have h1 := zi_sh ⟨y.toNat, by omega⟩
  have h2 : ((y.toNat : Nat) : Int) = y := by omega
  simp only [h2] at h1
  rw [← zi_of (zi x >>> (zi y &&& 31))]
  congr 1
  show ((zi x >>> (zi y &&& 31)).toBitVec).toInt = _
  rw [Int32.toBitVec_shiftRight, BitVec.toInt_sshiftRight', h1]
  show (zi x).toInt >>> _ = _
  rw [zi_toInt hx, Int.shiftRight_eq_div_pow]
  norm_cast
theorem zi_shl {x y : Int} (hy : 0 ≤ y ∧ y < 32) : zi x <<< (zi y &&& 31) = zi (x * 2 ^ y.toNat) := by
  have h1 := zi_sh ⟨y.toNat, by omega⟩
  have h2 : ((y.toNat : Nat) : Int) = y := by omega
  simp only [h2] at h1
  apply Int32.toBitVec_inj.mp
  apply BitVec.eq_of_toNat_eq
  rw [Int32.toBitVec_shiftLeft, BitVec.shiftLeft_eq', h1, BitVec.toNat_shiftLeft, zi_tn, zi_tn, Nat.shiftLeft_eq]
  have h3 : (0 : Int) ≤ x % 4294967296 := Int.emod_nonneg _ (by decide)
  have h4 : (0 : Int) ≤ (x * 2 ^ y.toNat) % 4294967296 := Int.emod_nonneg _ (by decide)
  apply Int.ofNat.inj
  show (((x % 4294967296).toNat * 2 ^ y.toNat % 2 ^ 32 : Nat) : Int) = (((x * 2 ^ y.toNat) % 4294967296).toNat : Int)
  rw [Int.toNat_of_nonneg h4]
  rw [Int.natCast_emod, Int.natCast_mul, Int.toNat_of_nonneg h3, Int.natCast_pow]
  show x % 4294967296 * 2 ^ y.toNat % 4294967296 = _
  rw [Int.mul_emod, Int.emod_emod_of_dvd _ (Int.dvd_refl _), ← Int.mul_emod]
theorem zl_shr {x y : Int} (hx : inL x) (hy : 0 ≤ y ∧ y < 64) : zl x >>> ((zi y).toInt64 &&& 63) = zl (x / 2 ^ y.toNat) := by
  have h1 := zl_sh ⟨y.toNat, by omega⟩
  have h2 : ((y.toNat : Nat) : Int) = y := by omega
  simp only [h2] at h1
  rw [← zl_of (zl x >>> ((zi y).toInt64 &&& 63))]
  congr 1
  show ((zl x >>> ((zi y).toInt64 &&& 63)).toBitVec).toInt = _
  rw [Int64.toBitVec_shiftRight, BitVec.toInt_sshiftRight', h1]
  show (zl x).toInt >>> _ = _
  rw [zl_toInt hx, Int.shiftRight_eq_div_pow]
  norm_cast
theorem zl_shl {x y : Int} (hy : 0 ≤ y ∧ y < 64) : zl x <<< ((zi y).toInt64 &&& 63) = zl (x * 2 ^ y.toNat) := by
  have h1 := zl_sh ⟨y.toNat, by omega⟩
  have h2 : ((y.toNat : Nat) : Int) = y := by omega
  simp only [h2] at h1
  apply Int64.toBitVec_inj.mp
  apply BitVec.eq_of_toNat_eq
  rw [Int64.toBitVec_shiftLeft, BitVec.shiftLeft_eq', h1, BitVec.toNat_shiftLeft, zl_tn, zl_tn, Nat.shiftLeft_eq]
  have h3 : (0 : Int) ≤ x % 18446744073709551616 := Int.emod_nonneg _ (by decide)
  have h4 : (0 : Int) ≤ (x * 2 ^ y.toNat) % 18446744073709551616 := Int.emod_nonneg _ (by decide)
  apply Int.ofNat.inj
  show (((x % 18446744073709551616).toNat * 2 ^ y.toNat % 2 ^ 64 : Nat) : Int) = (((x * 2 ^ y.toNat) % 18446744073709551616).toNat : Int)
  rw [Int.toNat_of_nonneg h4]
  rw [Int.natCast_emod, Int.natCast_mul, Int.toNat_of_nonneg h3, Int.natCast_pow]
  show x % 18446744073709551616 * 2 ^ y.toNat % 18446744073709551616 = _
  rw [Int.mul_emod, Int.emod_emod_of_dvd _ (Int.dvd_refl _), ← Int.mul_emod]
def zushr (x y : Int) : Int := (if 0 ≤ x then x else x + 18446744073709551616) / 2 ^ y.toNat
theorem zl_ushS : ∀ k : Fin 64, ((((zi (k.val : Int)).toInt64.toUInt64 &&& Int64.toUInt64 63) : UInt64).toNat % 64) = k.val := by decide +kernel
theorem zl_ushr {x y : Int} (hx : inL x) (hy : 0 ≤ y ∧ y < 64) : ((zl x).toUInt64 >>> ((zi y).toInt64.toUInt64 &&& Int64.toUInt64 63)).toInt64 = zl (zushr x y) := by
  have h1 := zl_ushS ⟨y.toNat, by omega⟩
  have h2 : ((y.toNat : Nat) : Int) = y := by omega
  simp only [h2] at h1
  apply Int64.toBitVec_inj.mp
  apply BitVec.eq_of_toNat_eq
  show ((zl x).toUInt64 >>> ((zi y).toInt64.toUInt64 &&& Int64.toUInt64 63)).toNat = _
  rw [UInt64.toNat_shiftRight, h1, Nat.shiftRight_eq_div_pow, zl_tn]
  show (zl x).toBitVec.toNat / _ = _
  rw [zl_tn]
  unfold zushr
  have h3 : (x % 18446744073709551616) = if 0 ≤ x then x else x + 18446744073709551616 := by
    by_cases h : 0 ≤ x
    · rw [if_pos h]; omega
    · rw [if_neg h]; omega
  rw [h3]
  generalize hz : (if 0 ≤ x then x else x + 18446744073709551616) = z
  have hz0 : 0 ≤ z := by rw [← hz]; by_cases h : 0 ≤ x <;> simp [h] <;> omega
  have hz1 : z < 18446744073709551616 := by rw [← hz]; by_cases h : 0 ≤ x <;> simp [h] <;> omega
  have hp : (0 : Int) < 2 ^ y.toNat := Int.pow_pos (by decide)
  have h5 : z / 2 ^ y.toNat ≤ z := Int.ediv_le_self _ hz0
  have h6 : 0 ≤ z / 2 ^ y.toNat := Int.ediv_nonneg hz0 (by omega)
  rw [Int.emod_eq_of_lt h6 (by omega)]
  apply Int.ofNat.inj
  show ((z.toNat / 2 ^ y.toNat : Nat) : Int) = ((z / 2 ^ y.toNat).toNat : Int)
  rw [Int.toNat_of_nonneg h6]
  push_cast
  rw [Int.toNat_of_nonneg hz0]
theorem zi_and (x : Int) (k : Nat) (mk : Int) (hm : (zi mk).toBitVec.toNat = 2 ^ k - 1) (hk : k ≤ 31) : zi x &&& zi mk = zi (x % 2 ^ k) := by
  rw [pk_and (zi x) k hm, zi_nat, zi_tn]
  congr 1
  have h3 : (0 : Int) ≤ x % 4294967296 := Int.emod_nonneg _ (by decide)
  push_cast
  rw [Int.toNat_of_nonneg h3]
  have hd : (2 : Int) ^ k ∣ 4294967296 := by
    have : (4294967296 : Int) = 2 ^ k * 2 ^ (32 - k) := by rw [← Int.pow_add, show k + (32 - k) = 32 by omega]; rfl
    exact ⟨_, this⟩
  exact Int.emod_emod_of_dvd _ hd
def zland (x y : Int) : Int := (zl x &&& zl y).toInt
def zlor (x y : Int) : Int := (zl x ||| zl y).toInt
def ziand (x y : Int) : Int := (zi x &&& zi y).toInt
/-- a row with one place changed -/
def uz (f : Nat → Int) (k : Nat) (x : Int) : Nat → Int := fun j => if j = k then x else f j
theorem uz_i (f : Nat → Int) (k : Nat) (x : Int) : upd (fun j => zi (f j)) k (zi x) = fun j => zi (uz f k x j) := by
  funext j
  unfold upd uz
  by_cases h : j = k <;> simp [h]
theorem uz_l (f : Nat → Int) (k : Nat) (x : Int) : vp_updL (fun j => zl (f j)) k (zl x) = fun j => zl (uz f k x j) := by
  funext j
  unfold vp_updL uz
  by_cases h : j = k <;> simp [h]
/-- a stretch of a row laid over another -/
def zcp (f g : Nat → Int) (sp dp n : Nat) : Nat → Int := fun k => if dp ≤ k ∧ k < dp + n then f (sp + (k - dp)) else g k
theorem zcp_i (f g : Nat → Int) (sp dp n : Nat) : va_cpy (fun j => zi (f j)) (fun j => zi (g j)) sp dp n = fun j => zi (zcp f g sp dp n j) := by
  funext j
  unfold va_cpy zcp
  by_cases h : dp ≤ j ∧ j < dp + n <;> simp [h]
end
section
def m_X0_forget (a_kept : Int) : Option (Int) :=
  some 0
def m_X1_addSpelling_25 (x1 : Int) (x2 : Int) (x3 : Int) (x4 : Int) (x5 : Int) (x6 : Int) (x7 : Int) (b_spellingsOf : Nat → Int) (b_spellingRows : Nat → Int) (b_spellingLengths : Nat → Int) (b_spellingPrices : Nat → Int) : Option (Nat × (Int)) :=
  gd (inI x7) <|
  gd (inI (x5 + x6)) <|
  if (x5 + x6) ≤ x7 then
    some (1, x7)
  else
    gd (0 ≤ x7 ∧ x7 < 150) <|
    gd (inI (b_spellingRows (Int.toNat x7))) <|
    gd (inI x2) <|
    if (b_spellingRows (Int.toNat x7)) = x2 then
      some (2, x7)
    else
      vl (x7 + 1) fun x7_48 =>
      some (0, x7_48)
def m_X1_addSpelling (x1 : Int) (x2 : Int) (x3 : Int) (x4 : Int) (b_spellingsOf : Nat → Int) (b_spellingRows : Nat → Int) (b_spellingLengths : Nat → Int) (b_spellingPrices : Nat → Int) : Option (Int × (Nat → Int) × (Nat → Int) × (Nat → Int) × (Nat → Int)) :=
  vl (x1 * 3) fun x5_3 =>
  gd (0 ≤ x1 ∧ x1 < 50) <|
  vl (b_spellingsOf (Int.toNat x1)) fun x6_11 =>
  gd (inI x6_11) <|
  if x6_11 < 3 then
    (zloop (fun a => m_X1_addSpelling_25 x1 x2 x3 x4 x5_3 x6_11 a b_spellingsOf b_spellingRows b_spellingLengths b_spellingPrices) FU x5_3).bind fun (t_25, x7_25) =>
    if t_25 = 1 then
      gd (0 ≤ (x5_3 + x6_11) ∧ (x5_3 + x6_11) < 150) <|
      vl (uz b_spellingRows (Int.toNat (x5_3 + x6_11)) x2) fun b_spellingRows_64 =>
      gd (0 ≤ (x5_3 + x6_11) ∧ (x5_3 + x6_11) < 150) <|
      vl (uz b_spellingLengths (Int.toNat (x5_3 + x6_11)) x3) fun b_spellingLengths_75 =>
      gd (0 ≤ (x5_3 + x6_11) ∧ (x5_3 + x6_11) < 150) <|
      vl (uz b_spellingPrices (Int.toNat (x5_3 + x6_11)) x4) fun b_spellingPrices_87 =>
      gd (0 ≤ x1 ∧ x1 < 50) <|
      gd (0 ≤ x1 ∧ x1 < 50) <|
      vl (uz b_spellingsOf (Int.toNat x1) ((b_spellingsOf (Int.toNat x1)) + 1)) fun b_spellingsOf_97 =>
      some (1, b_spellingsOf_97, b_spellingRows_64, b_spellingLengths_75, b_spellingPrices_87)
    else
      some (0, b_spellingsOf, b_spellingRows, b_spellingLengths, b_spellingPrices)
  else
    some (0, b_spellingsOf, b_spellingRows, b_spellingLengths, b_spellingPrices)
def m_X1_addWord (x1 : Int) (x3 : Int) (x5 : Int) (x6 : Int) (b_words : Int) (b_wordSounds : Nat → Int) (b_wordSigns : Nat → Int) (b_wordKinds : Nat → Int) (b_wordClasses : Nat → Int) : Option (Int × Int × (Nat → Int) × (Nat → Int) × (Nat → Int) × (Nat → Int)) :=
  gd (0 ≤ b_words ∧ b_words < 60) <|
  vl (uz b_wordSounds (Int.toNat b_words) x1) fun b_wordSounds_9 =>
  gd (0 ≤ b_words ∧ b_words < 60) <|
  vl (uz b_wordSigns (Int.toNat b_words) x3) fun b_wordSigns_19 =>
  gd (0 ≤ b_words ∧ b_words < 60) <|
  vl (uz b_wordKinds (Int.toNat b_words) x5) fun b_wordKinds_30 =>
  gd (0 ≤ b_words ∧ b_words < 60) <|
  vl (uz b_wordClasses (Int.toNat b_words) x6) fun b_wordClasses_41 =>
  vl (b_words + 1) fun b_words_49 =>
  some ((b_words_49 - 1), b_words_49, b_wordSounds_9, b_wordSigns_19, b_wordKinds_30, b_wordClasses_41)
def m_X1_addEnding (x1 : Int) (x3 : Int) (x4 : Int) (x5 : Int) (b_endings : Int) (b_endingSounds : Nat → Int) (b_endingSigns : Nat → Int) (b_endingClasses : Nat → Int) (b_endingPrices : Nat → Int) : Option (Int × Int × (Nat → Int) × (Nat → Int) × (Nat → Int) × (Nat → Int)) :=
  gd (0 ≤ b_endings ∧ b_endings < 8) <|
  vl (uz b_endingSounds (Int.toNat b_endings) x1) fun b_endingSounds_9 =>
  gd (0 ≤ b_endings ∧ b_endings < 8) <|
  vl (uz b_endingSigns (Int.toNat b_endings) x3) fun b_endingSigns_19 =>
  gd (0 ≤ b_endings ∧ b_endings < 8) <|
  vl (uz b_endingClasses (Int.toNat b_endings) x4) fun b_endingClasses_30 =>
  gd (0 ≤ b_endings ∧ b_endings < 8) <|
  vl (uz b_endingPrices (Int.toNat b_endings) x5) fun b_endingPrices_41 =>
  vl (b_endings + 1) fun b_endings_49 =>
  some ((b_endings_49 - 1), b_endings_49, b_endingSounds_9, b_endingSigns_19, b_endingClasses_30, b_endingPrices_41)
def m_X8_digits_2 (x0 : Int) (x1 : Int) : Option (Nat × (Int)) :=
  gd (inI x1) <|
  if 31 ≤ x1 then
    some (1, x1)
  else
    gd (inI x0) <|
    gd (0 ≤ x1 ∧ x1 < 32) <|
    gd (inI (x0 / 2 ^ Int.toNat x1)) <|
    if (x0 / 2 ^ Int.toNat x1) ≤ 0 then
      some (1, x1)
    else
      vl (x1 + 1) fun x1_14 =>
      some (0, x1_14)
def m_X8_digits (x0 : Int) : Option (Int) :=
  (zloop (fun a => m_X8_digits_2 x0 a) FU 0).bind fun (t_2, x1_2) =>
  some x1_2
def m_X1_priceStep (x1 : Int) (x2 : Int) (b_stepPrices : Nat → Int) (b_pairsOf : Nat → Int) (b_stepCosts : Nat → Int) : Option ((Nat → Int) × (Nat → Int)) :=
  gd (0 ≤ x1 ∧ x1 < 81) <|
  vl (uz b_stepPrices (Int.toNat x1) x2) fun b_stepPrices_6 =>
  gd (0 ≤ x1 ∧ x1 < 81) <|
  (m_X8_digits (b_pairsOf (Int.toNat x1))).bind fun r_20 =>
  gd (0 ≤ x1 ∧ x1 < 81) <|
  vl (uz b_stepCosts (Int.toNat x1) (x2 - (2 * r_20))) fun b_stepCosts_25 =>
  some (b_stepPrices_6, b_stepCosts_25)
def m_X8_wordOf (x0 : Int) : Option (Int) :=
  gd (inI x0) <|
  if x0 = 540 then
    some (-1)
  else
    some (Int.tdiv x0 9)
def m_X1_kindOf (x1 : Int) (b_wordKinds : Nat → Int) : Option (Int) :=
  gd (inI x1) <|
  if x1 = 540 then
    some 8
  else
    (m_X8_wordOf x1).bind fun r_17 =>
    gd (0 ≤ r_17 ∧ r_17 < 60) <|
    some (b_wordKinds (Int.toNat r_17))
def m_X1_learn_38 (x2 : Int) (x3 : Int) (x4 : Int) (x5 : Int) (b_wordKinds : Nat → Int) (b_counts : Nat → Int) (b_stepPrices : Nat → Int) (b_pairsOf : Nat → Int) (b_stepCosts : Nat → Int) (g0 : Nat → Int) (gn0 : Nat) : Option (Nat × (Int × (Nat → Int) × (Nat → Int) × (Nat → Int) × (Nat → Int))) :=
  gd (inI x5) <|
  gd (inI x2) <|
  if x5 ≤ x2 then
    vl (x5 + 1) fun x5_93 =>
    some (0, (x5_93, b_counts, b_stepPrices, b_pairsOf, b_stepCosts))
  else
    gd (0 ≤ (x5 - 1) ∧ (x5 - 1) < (gn0 : Int)) <|
    (m_X1_kindOf (g0 (Int.toNat (x5 - 1))) b_wordKinds).bind fun r_51 =>
    gd (0 ≤ x5 ∧ x5 < (gn0 : Int)) <|
    (m_X1_kindOf (g0 (Int.toNat x5)) b_wordKinds).bind fun r_62 =>
    vl ((r_51 * 9) + r_62) fun x7_66 =>
    gd (0 ≤ x7_66 ∧ x7_66 < 81) <|
    gd (0 ≤ x7_66 ∧ x7_66 < 81) <|
    vl (uz b_pairsOf (Int.toNat x7_66) ((b_pairsOf (Int.toNat x7_66)) + x4)) fun b_pairsOf_79 =>
    gd (0 ≤ x7_66 ∧ x7_66 < 81) <|
    (m_X1_priceStep x7_66 (b_stepPrices (Int.toNat x7_66)) b_stepPrices b_pairsOf_79 b_stepCosts).bind fun (b_stepPrices_90, b_stepCosts_90) =>
    vl (x5 + 1) fun x5_93_v2 =>
    some (0, (x5_93_v2, b_counts, b_stepPrices_90, b_pairsOf_79, b_stepCosts_90))
def m_X1_learn_3 (x2 : Int) (x3 : Int) (x4 : Int) (x5 : Int) (b_wordKinds : Nat → Int) (b_counts : Nat → Int) (b_stepPrices : Nat → Int) (b_pairsOf : Nat → Int) (b_stepCosts : Nat → Int) (g0 : Nat → Int) (gn0 : Nat) : Option (Nat × (Int × (Nat → Int) × (Nat → Int) × (Nat → Int) × (Nat → Int))) :=
  gd (inI x5) <|
  gd (inI (x2 + x3)) <|
  if (x2 + x3) ≤ x5 then
    some (1, (x5, b_counts, b_stepPrices, b_pairsOf, b_stepCosts))
  else
    gd (0 ≤ x5 ∧ x5 < (gn0 : Int)) <|
    (m_X8_wordOf (g0 (Int.toNat x5))).bind fun r_15 =>
    gd (inI r_15) <|
    if r_15 = (-1) then
      m_X1_learn_38 x2 x3 x4 x5 b_wordKinds b_counts b_stepPrices b_pairsOf b_stepCosts g0 gn0
    else
      gd (0 ≤ r_15 ∧ r_15 < 60) <|
      gd (0 ≤ r_15 ∧ r_15 < 60) <|
      vl (uz b_counts (Int.toNat r_15) ((b_counts (Int.toNat r_15)) + x4)) fun b_counts_37 =>
      m_X1_learn_38 x2 x3 x4 x5 b_wordKinds b_counts_37 b_stepPrices b_pairsOf b_stepCosts g0 gn0
def m_X1_learn (x2 : Int) (x3 : Int) (x4 : Int) (b_wordKinds : Nat → Int) (b_counts : Nat → Int) (b_stepPrices : Nat → Int) (b_pairsOf : Nat → Int) (b_stepCosts : Nat → Int) (g0 : Nat → Int) (gn0 : Nat) : Option ((Nat → Int) × (Nat → Int) × (Nat → Int) × (Nat → Int)) :=
  (zloop (fun a => m_X1_learn_3 x2 x3 x4 a.1 b_wordKinds a.2.1 a.2.2.1 a.2.2.2.1 a.2.2.2.2 g0 gn0) FU (x2, b_counts, b_stepPrices, b_pairsOf, b_stepCosts)).bind fun (t_3, x5_3, b_counts_3, b_stepPrices_3, b_pairsOf_3, b_stepCosts_3) =>
  some (b_counts_3, b_stepPrices_3, b_pairsOf_3, b_stepCosts_3)
def m_X1_wordCost (x1 : Int) (b_counts : Nat → Int) (b_prices : Nat → Int) : Option (Int) :=
  gd (0 ≤ x1 ∧ x1 < 60) <|
  (m_X8_digits (b_counts (Int.toNat x1))).bind fun r_14 =>
  some ((b_prices (Int.toNat 2)) - (8 * r_14))
def m_X1_goesTogether (x1 : Int) (x2 : Int) (b_wordClasses : Nat → Int) (b_endings : Int) (b_endingClasses : Nat → Int) : Option (Int) :=
  gd (inI x2) <|
  if x2 = (-1) then
    some 1
  else
    gd (inI b_endings) <|
    if b_endings ≤ x2 then
      some 0
    else
      gd (0 ≤ x2 ∧ x2 < 8) <|
      gd (0 ≤ x1 ∧ x1 < 60) <|
      gd (inI (b_endingClasses (Int.toNat x2))) <|
      gd (inI (b_wordClasses (Int.toNat x1))) <|
      if (b_endingClasses (Int.toNat x2)) = (b_wordClasses (Int.toNat x1)) then
        some 1
      else
        some 0
def m_X8_rowLength_13 (x2 : Int) (x3 : Int) (x4 : Int) (x5 : Int) (x7 : Int) (x9 : Int) : Option (Nat × (Int × Int)) :=
  gd (inI x9) <|
  gd (inI x4) <|
  if x4 ≤ x9 then
    some (1, (x7, x9))
  else
    gd (inL (zland x7 x5)) <|
    if (zland x7 x5) = 0 then
      some (1, (x7, x9))
    else
      gd (inI x3) <|
      gd (inL x3) <|
      if (zland x7 x5) ≤ x3 then
        gd (inL x7) <|
        gd (0 ≤ x2 ∧ x2 < 64) <|
        vl (zushr x7 x2) fun x7_47 =>
        vl (x9 + 1) fun x9_49 =>
        some (0, (x7_47, x9_49))
      else
        some (2, (x7, x9))
def m_X8_rowLength_55 (x7 : Int) (x9 : Int) : Option (Int) :=
  gd (inL x7) <|
  if x7 = 0 then
    some x9
  else
    some 0
def m_X8_rowLength (x0 : Int) (x2 : Int) (x3 : Int) (x4 : Int) : Option (Int) :=
  gd (0 ≤ x2 ∧ x2 < 64) <|
  vl ((1 * 2 ^ Int.toNat x2) - 1) fun x5_5 =>
  (zloop (fun a => m_X8_rowLength_13 x2 x3 x4 x5_5 a.1 a.2) FU (x0, 0)).bind fun (t_13, x7_13, x9_13) =>
  if t_13 = 1 then
    m_X8_rowLength_55 x7_13 x9_13
  else
    some 0
def m_X8_endingOf (x0 : Int) : Option (Int) :=
  gd (inI x0) <|
  if x0 = 540 then
    some (-1)
  else
    some ((Int.tmod x0 9) - 1)
def m_X1_signsOf (x1 : Int) (b_wordSigns : Nat → Int) : Option (Int) :=
  gd (inI x1) <|
  if x1 = 540 then
    some 1
  else
    (m_X8_wordOf x1).bind fun r_14 =>
    gd (0 ≤ r_14 ∧ r_14 < 60) <|
    (m_X8_rowLength (b_wordSigns (Int.toNat r_14)) 14 16383 4).bind fun r_24 =>
    (m_X8_endingOf x1).bind fun r_28 =>
    gd (inI r_28) <|
    if r_28 = (-1) then
      some (r_24 + 0)
    else
      some (r_24 + 1)
def m_X1_signAt_44 (x1 : Int) (x2 : Int) (b_wordSigns : Nat → Int) (b_endingSigns : Nat → Int) : Option (Int) :=
  (m_X8_wordOf x1).bind fun r_49 =>
  gd (0 ≤ r_49 ∧ r_49 < 60) <|
  gd (inL (b_wordSigns (Int.toNat r_49))) <|
  gd (0 ≤ (x2 * 14) ∧ (x2 * 14) < 64) <|
  some (((b_wordSigns (Int.toNat r_49)) / 2 ^ Int.toNat (x2 * 14)) % 16384)
def m_X1_signAt (x1 : Int) (x2 : Int) (x3 : Int) (b_wordSigns : Nat → Int) (b_endingSigns : Nat → Int) : Option (Int) :=
  gd (inI x1) <|
  if x1 = 540 then
    some (20000 + x3)
  else
    (m_X8_endingOf x1).bind fun r_14 =>
    gd (inI r_14) <|
    if r_14 = (-1) then
      m_X1_signAt_44 x1 x2 b_wordSigns b_endingSigns
    else
      (m_X1_signsOf x1 b_wordSigns).bind fun r_28 =>
      gd (inI x2) <|
      gd (inI (r_28 - 1)) <|
      if x2 = (r_28 - 1) then
        gd (0 ≤ r_14 ∧ r_14 < 8) <|
        some (b_endingSigns (Int.toNat r_14))
      else
        m_X1_signAt_44 x1 x2 b_wordSigns b_endingSigns
def m_J7_fill_53178_5 (x1 : Int) (x2 : Int) (x3 : Int) (g0 : Nat → Int) (gn0 : Nat) : Option (Nat × (Int × (Nat → Int))) :=
  gd (inI x2) <|
  gd (inI x3) <|
  if x3 ≤ x2 then
    some (1, (x2, g0))
  else
    gd (0 ≤ x2 ∧ x2 < (gn0 : Int)) <|
    vl (uz g0 (Int.toNat x2) x1) fun g0_13 =>
    vl (x2 + 1) fun x2_14 =>
    some (0, (x2_14, g0_13))
def m_J7_fill_53178 (x1 : Int) (g0 : Nat → Int) (gn0 : Nat) : Option ((Nat → Int)) :=
  vl (gn0 : Int) fun x3_4 =>
  (zloop (fun a => m_J7_fill_53178_5 x1 a.1 x3_4 a.2 gn0) FU (0, g0)).bind fun (t_5, x2_5, g0_5) =>
  some g0_5
def m_X4_partsAt (x1 : Int) (s_length : Int) (s_breaks : Nat → Int) : Option (Int) :=
  gd (inI x1) <|
  if x1 = 0 then
    some 1
  else
    gd (inI s_length) <|
    if x1 = s_length then
      some 1
    else
      gd (0 ≤ x1 ∧ x1 < 36) <|
      gd (inI (s_breaks (Int.toNat x1))) <|
      if (s_breaks (Int.toNat x1)) = 2 then
        some 0
      else
        some 1
def m_X4_reachFrom_4 (x2 : Int) (s_length : Int) (s_breaks : Nat → Int) : Option (Nat × (Int)) :=
  gd (inI x2) <|
  gd (inI s_length) <|
  if s_length ≤ x2 then
    some (1, x2)
  else
    gd (0 ≤ x2 ∧ x2 < 36) <|
    gd (inI (s_breaks (Int.toNat x2))) <|
    if (s_breaks (Int.toNat x2)) = 1 then
      some (1, x2)
    else
      vl (x2 + 1) fun x2_22 =>
      some (0, x2_22)
def m_X4_reachFrom (x1 : Int) (s_length : Int) (s_breaks : Nat → Int) : Option (Int) :=
  vl (x1 + 1) fun x2_3 =>
  (zloop (fun a => m_X4_reachFrom_4 a s_length s_breaks) FU x2_3).bind fun (t_4, x2_4) =>
  some x2_4
def m_X8_fillRange_3 (x2 : Int) (x3 : Int) (x4 : Int) (g0 : Nat → Int) (gn0 : Nat) : Option (Nat × (Int × (Nat → Int))) :=
  gd (inI x4) <|
  gd (inI x2) <|
  if x2 ≤ x4 then
    some (1, (x4, g0))
  else
    gd (0 ≤ x4 ∧ x4 < (gn0 : Int)) <|
    vl (uz g0 (Int.toNat x4) x3) fun g0_13 =>
    vl (x4 + 1) fun x4_14 =>
    some (0, (x4_14, g0_13))
def m_X8_fillRange (x1 : Int) (x2 : Int) (x3 : Int) (g0 : Nat → Int) (gn0 : Nat) : Option ((Nat → Int)) :=
  (zloop (fun a => m_X8_fillRange_3 x2 x3 a.1 a.2 gn0) FU (x1, g0)).bind fun (t_3, x4_3, g0_3) =>
  some g0_3
def m_X4_copyFrom (s_length : Int) (s_letters : Nat → Int) (s_breaks : Nat → Int) (s_fixed : Nat → Int) (w_length : Int) (w_letters : Nat → Int) (w_breaks : Nat → Int) (w_fixed : Nat → Int) : Option (Int × (Nat → Int) × (Nat → Int) × (Nat → Int)) :=
  vl (zcp w_letters s_letters (Int.toNat 0) (Int.toNat 0) (Int.toNat 36)) fun s_letters_20 =>
  vl (zcp w_breaks s_breaks (Int.toNat 0) (Int.toNat 0) (Int.toNat 36)) fun s_breaks_35 =>
  vl (zcp w_fixed s_fixed (Int.toNat 0) (Int.toNat 0) (Int.toNat 36)) fun s_fixed_50 =>
  some (w_length, s_letters_20, s_breaks_35, s_fixed_50)
def m_X4_fixedEndsAt_2 (x1 : Int) (x2 : Int) (s_fixed : Nat → Int) : Option (Nat × (Int)) :=
  gd (inI x2) <|
  gd (inI x1) <|
  if x1 ≤ x2 then
    some (1, x2)
  else
    gd (0 ≤ x2 ∧ x2 < 36) <|
    gd (inI (s_fixed (Int.toNat x2))) <|
    gd (inI ((s_fixed (Int.toNat x2)) / 1024)) <|
    if ((s_fixed (Int.toNat x2)) / 1024) = x1 then
      some (2, x2)
    else
      vl (x2 + 1) fun x2_22 =>
      some (0, x2_22)
def m_X4_fixedEndsAt (x1 : Int) (s_fixed : Nat → Int) : Option (Int) :=
  (zloop (fun a => m_X4_fixedEndsAt_2 x1 a s_fixed) FU 0).bind fun (t_2, x2_2) =>
  if t_2 = 1 then
    some 0
  else
    some 1
def m_X4_append_34 (t1 : Int) (t2 : Int) (s_length : Int) (s_letters : Nat → Int) (s_breaks : Nat → Int) (s_fixed : Nat → Int) : Option (Int × (Nat → Int) × (Nat → Int)) :=
  gd (0 ≤ t1 ∧ t1 < 36) <|
  vl (uz s_breaks (Int.toNat t1) t2) fun s_breaks_34 =>
  vl (s_length + 1) fun s_length_42 =>
  some (s_length_42, s_letters, s_breaks_34)
def m_X4_append (x1 : Int) (s_length : Int) (s_letters : Nat → Int) (s_breaks : Nat → Int) (s_fixed : Nat → Int) : Option (Int × (Nat → Int) × (Nat → Int)) :=
  gd (0 ≤ s_length ∧ s_length < 36) <|
  vl (uz s_letters (Int.toNat s_length) x1) fun s_letters_9 =>
  (m_X4_fixedEndsAt s_length s_fixed).bind fun r_23 =>
  gd (inI r_23) <|
  if r_23 = 0 then
    m_X4_append_34 s_length 0 s_length s_letters_9 s_breaks s_fixed
  else
    m_X4_append_34 s_length 1 s_length s_letters_9 s_breaks s_fixed
def m_X4_freeHand (s_breaks : Nat → Int) (s_fixed : Nat → Int) : Option ((Nat → Int) × (Nat → Int)) :=
  (m_J7_fill_53178 0 s_breaks 36).bind fun s_breaks_5 =>
  (m_J7_fill_53178 0 s_fixed 36).bind fun s_fixed_13 =>
  some (s_breaks_5, s_fixed_13)
def m_X4_clear (s_length : Int) (s_breaks : Nat → Int) (s_fixed : Nat → Int) : Option (Int × (Nat → Int) × (Nat → Int)) :=
  (m_X4_freeHand s_breaks s_fixed).bind fun (s_breaks_6, s_fixed_6) =>
  some (0, s_breaks_6, s_fixed_6)
def m_X4_fixedParts_4 (x1 : Int) (x2 : Int) (s_fixed : Nat → Int) : Option (Nat × (Int × Int)) :=
  gd (inI x2) <|
  if 36 ≤ x2 then
    some (1, (x1, x2))
  else
    gd (0 ≤ x2 ∧ x2 < 36) <|
    gd (inI (s_fixed (Int.toNat x2))) <|
    if (s_fixed (Int.toNat x2)) = 0 then
      vl (x2 + 1) fun x2_22 =>
      some (0, (x1, x2_22))
    else
      vl (x1 + 1) fun x1_19 =>
      vl (x2 + 1) fun x2_22_v2 =>
      some (0, (x1_19, x2_22_v2))
def m_X4_fixedParts (s_fixed : Nat → Int) : Option (Int) :=
  (zloop (fun a => m_X4_fixedParts_4 a.1 a.2 s_fixed) FU (0, 0)).bind fun (t_4, x1_4, x2_4) =>
  some x1_4
def m_X4_wantBreak (x1 : Int) (s_length : Int) (s_breaks : Nat → Int) : Option ((Nat → Int)) :=
  gd (inI x1) <|
  if x1 ≤ 0 then
    some s_breaks
  else
    gd (inI s_length) <|
    if s_length ≤ x1 then
      some s_breaks
    else
      gd (0 ≤ x1 ∧ x1 < 36) <|
      vl (uz s_breaks (Int.toNat x1) 1) fun s_breaks_18 =>
      some s_breaks_18
def m_X4_fix_3 (x1 : Int) (x2 : Int) (x3 : Int) (x4 : Int) (s_length : Int) (s_breaks : Nat → Int) (s_fixed : Nat → Int) : Option (Nat × (Int × (Nat → Int))) :=
  gd (inI x4) <|
  gd (inI x2) <|
  if x2 ≤ x4 then
    some (1, (x4, s_fixed))
  else
    gd (0 ≤ x4 ∧ x4 < 36) <|
    gd (inI (s_fixed (Int.toNat x4))) <|
    gd (inI ((s_fixed (Int.toNat x4)) / 1024)) <|
    gd (inI x1) <|
    if ((s_fixed (Int.toNat x4)) / 1024) ≤ x1 then
      vl (x4 + 1) fun x4_31 =>
      some (0, (x4_31, s_fixed))
    else
      gd (0 ≤ x4 ∧ x4 < 36) <|
      vl (uz s_fixed (Int.toNat x4) 0) fun s_fixed_30 =>
      vl (x4 + 1) fun x4_31_v2 =>
      some (0, (x4_31_v2, s_fixed_30))
def m_X4_fix (x1 : Int) (x2 : Int) (x3 : Int) (s_length : Int) (s_breaks : Nat → Int) (s_fixed : Nat → Int) : Option ((Nat → Int) × (Nat → Int)) :=
  (zloop (fun a => m_X4_fix_3 x1 x2 x3 a.1 s_length s_breaks a.2) FU (0, s_fixed)).bind fun (t_3, x4_3, s_fixed_3) =>
  gd (0 ≤ x1 ∧ x1 < 36) <|
  vl (uz s_fixed_3 (Int.toNat x1) ((x2 * 1024) + x3)) fun s_fixed_48 =>
  (m_X8_fillRange (x1 + 1) x2 2 s_breaks 36).bind fun s_breaks_58 =>
  (m_X4_wantBreak x1 s_length s_breaks_58).bind fun s_breaks_63 =>
  (m_X4_wantBreak x2 s_length s_breaks_63).bind fun s_breaks_68 =>
  some (s_breaks_68, s_fixed_48)
def m_X4_moveBreak_81 (x1 : Int) (x2 : Int) (x3 : Int) (s_breaks : Nat → Int) (s_fixed : Nat → Int) : Option (Nat × (Int × (Nat → Int))) :=
  gd (0 ≤ x3 ∧ x3 < 36) <|
  vl (uz s_fixed (Int.toNat x3) 0) fun s_fixed_87 =>
  vl (x3 + 1) fun x3_88_v3 =>
  some (0, (x3_88_v3, s_fixed_87))
def m_X4_moveBreak_71 (x1 : Int) (x2 : Int) (x3 : Int) (x6 : Int) (s_breaks : Nat → Int) (s_fixed : Nat → Int) : Option (Nat × (Int × (Nat → Int))) :=
  gd (inI x6) <|
  if x6 = 0 then
    vl (x3 + 1) fun x3_88 =>
    some (0, (x3_88, s_fixed))
  else
    gd (inI x2) <|
    if x2 = 1 then
      vl (x3 + 1) fun x3_88_v2 =>
      some (0, (x3_88_v2, s_fixed))
    else
      m_X4_moveBreak_81 x1 x2 x3 s_breaks s_fixed
def m_X4_moveBreak_59 (x1 : Int) (x2 : Int) (x3 : Int) (x5 : Int) (t0 : Int) (s_breaks : Nat → Int) (s_fixed : Nat → Int) : Option (Nat × (Int × (Nat → Int))) :=
  gd (inI x5) <|
  if x5 = 0 then
    m_X4_moveBreak_71 x1 x2 x3 t0 s_breaks s_fixed
  else
    gd (inI x2) <|
    if x2 = 2 then
      m_X4_moveBreak_71 x1 x2 x3 t0 s_breaks s_fixed
    else
      m_X4_moveBreak_81 x1 x2 x3 s_breaks s_fixed
def m_X4_moveBreak_54 (x1 : Int) (x2 : Int) (x3 : Int) (x5 : Int) (s_breaks : Nat → Int) (s_fixed : Nat → Int) : Option (Nat × (Int × (Nat → Int))) :=
  m_X4_moveBreak_59 x1 x2 x3 x5 1 s_breaks s_fixed
def m_X4_moveBreak_41 (x1 : Int) (x2 : Int) (x3 : Int) (x4 : Int) (t0 : Int) (s_breaks : Nat → Int) (s_fixed : Nat → Int) : Option (Nat × (Int × (Nat → Int))) :=
  gd (inI x3) <|
  gd (inI x1) <|
  if x3 = x1 then
    m_X4_moveBreak_54 x1 x2 x3 t0 s_breaks s_fixed
  else
    gd (inI x4) <|
    if x4 = x1 then
      m_X4_moveBreak_54 x1 x2 x3 t0 s_breaks s_fixed
    else
      m_X4_moveBreak_59 x1 x2 x3 t0 0 s_breaks s_fixed
def m_X4_moveBreak_40 (x1 : Int) (x2 : Int) (x3 : Int) (x4 : Int) (s_breaks : Nat → Int) (s_fixed : Nat → Int) : Option (Nat × (Int × (Nat → Int))) :=
  m_X4_moveBreak_41 x1 x2 x3 x4 0 s_breaks s_fixed
def m_X4_moveBreak_9 (x1 : Int) (x2 : Int) (x3 : Int) (s_breaks : Nat → Int) (s_fixed : Nat → Int) : Option (Nat × (Int × (Nat → Int))) :=
  gd (inI x3) <|
  gd (inI x1) <|
  if x1 < x3 then
    some (1, (x3, s_fixed))
  else
    gd (0 ≤ x3 ∧ x3 < 36) <|
    gd (inI (s_fixed (Int.toNat x3))) <|
    vl ((s_fixed (Int.toNat x3)) / 1024) fun x4_23 =>
    if x1 ≤ x3 then
      m_X4_moveBreak_40 x1 x2 x3 x4_23 s_breaks s_fixed
    else
      gd (inI x4_23) <|
      if x4_23 ≤ x1 then
        m_X4_moveBreak_40 x1 x2 x3 x4_23 s_breaks s_fixed
      else
        m_X4_moveBreak_41 x1 x2 x3 x4_23 1 s_breaks s_fixed
def m_X4_moveBreak (x1 : Int) (x2 : Int) (s_breaks : Nat → Int) (s_fixed : Nat → Int) : Option ((Nat → Int) × (Nat → Int)) :=
  gd (0 ≤ x1 ∧ x1 < 36) <|
  vl (uz s_breaks (Int.toNat x1) x2) fun s_breaks_6 =>
  (zloop (fun a => m_X4_moveBreak_9 x1 x2 a.1 s_breaks_6 a.2) FU (0, s_fixed)).bind fun (t_9, x3_9, s_fixed_9) =>
  some (s_breaks_6, s_fixed_9)
def m_X7_keep (x2 : Int) (t_entries : Nat → Int) (t_lengths : Nat → Int) (t_kept : Int) (g0 : Nat → Int) (gn0 : Nat) : Option ((Nat → Int) × (Nat → Int) × Int) :=
  gd (0 ≤ (0 : Int) ∧ 0 ≤ (t_kept * 36) ∧ 0 ≤ x2 ∧ (0 : Int) + x2 ≤ (gn0 : Int) ∧ (t_kept * 36) + x2 ≤ 1440) <|
  vl (zcp g0 t_entries (Int.toNat 0) (Int.toNat (t_kept * 36)) (Int.toNat x2)) fun t_entries_14 =>
  gd (0 ≤ t_kept ∧ t_kept < 40) <|
  vl (uz t_lengths (Int.toNat t_kept) x2) fun t_lengths_26 =>
  vl (t_kept + 1) fun t_kept_34 =>
  some (t_entries_14, t_lengths_26, t_kept_34)
def m_X8_areKinds (x0 : Int) (x1 : Int) : Option (Int) :=
  gd (inI x0) <|
  if x0 < 0 then
    some 0
  else
    if 9 ≤ x0 then
      some 0
    else
      gd (inI x1) <|
      if x1 < 0 then
        some 0
      else
        if 9 ≤ x1 then
          some 0
        else
          some 1
def m_X5_placeOf (x1 : Int) (x2 : Int) : Option (Int) :=
  gd (inI (x2 * (x2 - 1))) <|
  some (((Int.tdiv (x2 * (x2 - 1)) 2) + x1) * 9)
def m_X6_startAt (x1 : Int) (x2 : Int) (p_now : Nat → Int) (p_low : Int) (p_high : Int) : Option ((Nat → Int) × Int × Int) :=
  gd (0 ≤ x1 ∧ x1 < 37) <|
  vl (uz p_now (Int.toNat x1) x2) fun p_now_16 =>
  some (p_now_16, x1, x1)
def m_X6_priceAt_27 (x1 : Int) (x2 : Int) (x3 : Int) (x4 : Int) (x5 : Int) (x6 : Int) (b_spellingRows : Nat → Int) (b_spellingLengths : Nat → Int) (b_spellingPrices : Nat → Int) (b_prices : Nat → Int) (s_letters : Nat → Int) : Option (Nat × (Int × Int)) :=
  gd (inI x6) <|
  gd (inI x4) <|
  if x4 ≤ x6 then
    some (1, (x5, x6))
  else
    gd (inI x5) <|
    if 1 < x5 then
      some (1, (x5, x6))
    else
      gd (inI x3) <|
      gd (0 ≤ (x6 * 5) ∧ (x6 * 5) < 32) <|
      gd (0 ≤ (x2 + x6) ∧ (x2 + x6) < 36) <|
      gd (inI ((x3 / 2 ^ Int.toNat (x6 * 5)) % 32)) <|
      gd (inI (s_letters (Int.toNat (x2 + x6)))) <|
      if ((x3 / 2 ^ Int.toNat (x6 * 5)) % 32) = (s_letters (Int.toNat (x2 + x6))) then
        vl (x6 + 1) fun x6_67 =>
        some (0, (x5, x6_67))
      else
        vl (x5 + 1) fun x5_64 =>
        vl (x6 + 1) fun x6_67_v2 =>
        some (0, (x5_64, x6_67_v2))
def m_X6_priceAt_73 (x1 : Int) (x5 : Int) (b_spellingRows : Nat → Int) (b_spellingLengths : Nat → Int) (b_spellingPrices : Nat → Int) (b_prices : Nat → Int) (s_letters : Nat → Int) : Option (Int) :=
  gd (inI x5) <|
  if x5 ≤ 1 then
    gd (0 ≤ x1 ∧ x1 < 150) <|
    some ((b_spellingPrices (Int.toNat x1)) + (x5 * (b_prices (Int.toNat 0))))
  else
    some 268435456
def m_X6_priceAt (x1 : Int) (x2 : Int) (b_spellingRows : Nat → Int) (b_spellingLengths : Nat → Int) (b_spellingPrices : Nat → Int) (b_prices : Nat → Int) (s_letters : Nat → Int) : Option (Int) :=
  gd (0 ≤ x1 ∧ x1 < 150) <|
  vl (b_spellingRows (Int.toNat x1)) fun x3_9 =>
  gd (0 ≤ x1 ∧ x1 < 150) <|
  vl (b_spellingLengths (Int.toNat x1)) fun x4_19 =>
  (zloop (fun a => m_X6_priceAt_27 x1 x2 x3_9 x4_19 a.1 a.2 b_spellingRows b_spellingLengths b_spellingPrices b_prices s_letters) FU (0, 0)).bind fun (t_27, x5_27, x6_27) =>
  m_X6_priceAt_73 x1 x5_27 b_spellingRows b_spellingLengths b_spellingPrices b_prices s_letters
def m_X6_stepBack_11 (x1 : Int) (x2 : Int) (b_spellingsOf : Nat → Int) (b_spellingRows : Nat → Int) (b_spellingLengths : Nat → Int) (b_spellingPrices : Nat → Int) (b_prices : Nat → Int) (s_letters : Nat → Int) (p_now : Nat → Int) (p_nowA : Nat) (p_next : Nat → Int) (p_nextA : Nat) (p_low : Int) (p_high : Int) : Option (Nat × (Int × (Nat → Int))) :=
  gd (inI x2) <|
  gd (inI p_high) <|
  if p_high ≤ x2 then
    some (1, (x2, p_next))
  else
    gd (0 ≤ x2 ∧ x2 < 37) <|
    vl (uz p_next (Int.toNat x2) 268435456) fun p_next_26 =>
    vl (x2 + 1) fun x2_27 =>
    some (0, (x2_27, p_next_26))
def m_X6_stepBack_192 (x2 : Int) (x3 : Int) (x4 : Int) (x5 : Int) (x6 : Int) (x7 : Int) (x8 : Int) (t0 : Int) (b_spellingsOf : Nat → Int) (b_spellingRows : Nat → Int) (b_spellingLengths : Nat → Int) (b_spellingPrices : Nat → Int) (b_prices : Nat → Int) (s_letters : Nat → Int) (p_now : Nat → Int) (p_nowA : Nat) (p_next : Nat → Int) (p_nextA : Nat) (p_low : Int) (p_high : Int) : Option (Nat × (Int × Int × Int × (Nat → Int))) :=
  gd (inI x8) <|
  gd (inI x3) <|
  if x8 ≤ x3 then
    vl (x7 + 1) fun x7_206_v3 =>
    some (0, (t0, x3, x7_206_v3, p_next))
  else
    vl (x7 + 1) fun x7_206_v4 =>
    some (0, (t0, x8, x7_206_v4, p_next))
def m_X6_stepBack_130 (x2 : Int) (x3 : Int) (x4 : Int) (x5 : Int) (x6 : Int) (x7 : Int) (x8 : Int) (t0 : Int) (b_spellingsOf : Nat → Int) (b_spellingRows : Nat → Int) (b_spellingLengths : Nat → Int) (b_spellingPrices : Nat → Int) (b_prices : Nat → Int) (s_letters : Nat → Int) (p_now : Nat → Int) (p_nowA : Nat) (p_next : Nat → Int) (p_nextA : Nat) (p_low : Int) (p_high : Int) : Option (Nat × (Int × Int × Int × (Nat → Int))) :=
  gd (inI t0) <|
  if t0 = 268435456 then
    vl (x7 + 1) fun x7_206 =>
    some (0, (x2, x3, x7_206, p_next))
  else
    gd (0 ≤ x6 ∧ x6 < 37) <|
    gd (0 ≤ x8 ∧ x8 < 37) <|
    gd (inI ((p_now (Int.toNat x6)) + (t0 * 16))) <|
    gd (inI (p_next (Int.toNat x8))) <|
    if (p_next (Int.toNat x8)) ≤ ((p_now (Int.toNat x6)) + (t0 * 16)) then
      vl (x7 + 1) fun x7_206_v2 =>
      some (0, (x2, x3, x7_206_v2, p_next))
    else
      gd (0 ≤ x6 ∧ x6 < 37) <|
      gd (0 ≤ x8 ∧ x8 < 37) <|
      vl (uz p_next (Int.toNat x8) ((p_now (Int.toNat x6)) + (t0 * 16))) fun p_next_179 =>
      gd (inI x2) <|
      if x2 ≤ x8 then
        m_X6_stepBack_192 x2 x3 x4 x5 x6 x7 x8 x2 b_spellingsOf b_spellingRows b_spellingLengths b_spellingPrices b_prices s_letters p_now p_nowA p_next_179 p_nextA p_low p_high
      else
        m_X6_stepBack_192 x2 x3 x4 x5 x6 x7 x8 x8 b_spellingsOf b_spellingRows b_spellingLengths b_spellingPrices b_prices s_letters p_now p_nowA p_next_179 p_nextA p_low p_high
def m_X6_stepBack_78 (x2 : Int) (x3 : Int) (x4 : Int) (x5 : Int) (x6 : Int) (x7 : Int) (b_spellingsOf : Nat → Int) (b_spellingRows : Nat → Int) (b_spellingLengths : Nat → Int) (b_spellingPrices : Nat → Int) (b_prices : Nat → Int) (s_letters : Nat → Int) (p_now : Nat → Int) (p_nowA : Nat) (p_next : Nat → Int) (p_nextA : Nat) (p_low : Int) (p_high : Int) : Option (Nat × (Int × Int × Int × (Nat → Int))) :=
  gd (inI x7) <|
  gd (inI x5) <|
  if x5 ≤ x7 then
    some (1, (x2, x3, x7, p_next))
  else
    gd (0 ≤ x6 ∧ x6 < 37) <|
    gd (inI (p_now (Int.toNat x6))) <|
    if (p_now (Int.toNat x6)) = 268435456 then
      some (1, (x2, x3, x7, p_next))
    else
      gd (0 ≤ x7 ∧ x7 < 150) <|
      vl (x6 - (b_spellingLengths (Int.toNat x7))) fun x8_110 =>
      gd (inI x8_110) <|
      if 0 ≤ x8_110 then
        (m_X6_priceAt x7 x8_110 b_spellingRows b_spellingLengths b_spellingPrices b_prices s_letters).bind fun r_127 =>
        m_X6_stepBack_130 x2 x3 x4 x5 x6 x7 x8_110 r_127 b_spellingsOf b_spellingRows b_spellingLengths b_spellingPrices b_prices s_letters p_now p_nowA p_next p_nextA p_low p_high
      else
        m_X6_stepBack_130 x2 x3 x4 x5 x6 x7 x8_110 268435456 b_spellingsOf b_spellingRows b_spellingLengths b_spellingPrices b_prices s_letters p_now p_nowA p_next p_nextA p_low p_high
end
section
def m_X6_stepBack_65 (x2 : Int) (x3 : Int) (x4 : Int) (x5 : Int) (x6 : Int) (b_spellingsOf : Nat → Int) (b_spellingRows : Nat → Int) (b_spellingLengths : Nat → Int) (b_spellingPrices : Nat → Int) (b_prices : Nat → Int) (s_letters : Nat → Int) (p_now : Nat → Int) (p_nowA : Nat) (p_next : Nat → Int) (p_nextA : Nat) (p_low : Int) (p_high : Int) : Option (Nat × (Int × Int × Int × (Nat → Int))) :=
  gd (inI x6) <|
  gd (inI p_high) <|
  if p_high < x6 then
    some (1, (x2, x3, x6, p_next))
  else
    (zloop (fun a => m_X6_stepBack_78 a.1 a.2.1 x4 x5 x6 a.2.2.1 b_spellingsOf b_spellingRows b_spellingLengths b_spellingPrices b_prices s_letters p_now p_nowA a.2.2.2 p_nextA p_low p_high) FU (x2, x3, x4, p_next)).bind fun (t_78, x2_78, x3_78, x7_78, p_next_78) =>
    vl (x6 + 1) fun x6_212 =>
    some (0, (x2_78, x3_78, x6_212, p_next_78))
def m_X6_stepBack (x1 : Int) (b_spellingsOf : Nat → Int) (b_spellingRows : Nat → Int) (b_spellingLengths : Nat → Int) (b_spellingPrices : Nat → Int) (b_prices : Nat → Int) (s_letters : Nat → Int) (p_now : Nat → Int) (p_nowA : Nat) (p_next : Nat → Int) (p_nextA : Nat) (p_low : Int) (p_high : Int) : Option ((Nat → Int) × Nat × (Nat → Int) × Nat × Int × Int) :=
  gd (inI (p_low - 4)) <|
  vl (max 0 (p_low - 4)) fun x2_10 =>
  (zloop (fun a => m_X6_stepBack_11 x1 a.1 b_spellingsOf b_spellingRows b_spellingLengths b_spellingPrices b_prices s_letters p_now p_nowA a.2 p_nextA p_low p_high) FU (x2_10, p_next)).bind fun (t_11, x2_11, p_next_11) =>
  vl (x1 * 3) fun x4_43 =>
  gd (0 ≤ x1 ∧ x1 < 50) <|
  vl (x4_43 + (b_spellingsOf (Int.toNat x1))) fun x5_57 =>
  (zloop (fun a => m_X6_stepBack_65 a.1 a.2.1 x4_43 x5_57 a.2.2.1 b_spellingsOf b_spellingRows b_spellingLengths b_spellingPrices b_prices s_letters p_now p_nowA a.2.2.2 p_nextA p_low p_high) FU (p_high, (-1), p_low, p_next_11)).bind fun (t_65, x2_65, x3_65, x6_65, p_next_65) =>
  some (p_next_65, p_nextA, p_now, p_nowA, x2_65, x3_65)
def m_X6_walkBack_5 (x1 : Int) (x4 : Int) (b_spellingsOf : Nat → Int) (b_spellingRows : Nat → Int) (b_spellingLengths : Nat → Int) (b_spellingPrices : Nat → Int) (b_prices : Nat → Int) (s_letters : Nat → Int) (p_now : Nat → Int) (p_nowA : Nat) (p_next : Nat → Int) (p_nextA : Nat) (p_low : Int) (p_high : Int) : Option (Nat × (Int × (Nat → Int) × Nat × (Nat → Int) × Nat × Int × Int)) :=
  gd (inI x4) <|
  if x4 < 0 then
    some (1, (x4, p_now, p_nowA, p_next, p_nextA, p_low, p_high))
  else
    gd (inI p_low) <|
    gd (inI p_high) <|
    if p_high < p_low then
      some (1, (x4, p_now, p_nowA, p_next, p_nextA, p_low, p_high))
    else
      gd (inL x1) <|
      gd (0 ≤ (x4 * 6) ∧ (x4 * 6) < 64) <|
      vl ((zland (x1 / 2 ^ Int.toNat (x4 * 6)) 63) - 1) fun x5_35 =>
      gd (inI x5_35) <|
      if x5_35 < 0 then
        vl (x4 + (-1)) fun x4_48 =>
        some (0, (x4_48, p_now, p_nowA, p_next, p_nextA, p_low, p_high))
      else
        (m_X6_stepBack x5_35 b_spellingsOf b_spellingRows b_spellingLengths b_spellingPrices b_prices s_letters p_now p_nowA p_next p_nextA p_low p_high).bind fun (p_now_45, p_nowA_45, p_next_45, p_nextA_45, p_low_45, p_high_45) =>
        vl (x4 + (-1)) fun x4_48_v2 =>
        some (0, (x4_48_v2, p_now_45, p_nowA_45, p_next_45, p_nextA_45, p_low_45, p_high_45))
def m_X6_walkBack (x1 : Int) (x3 : Int) (b_spellingsOf : Nat → Int) (b_spellingRows : Nat → Int) (b_spellingLengths : Nat → Int) (b_spellingPrices : Nat → Int) (b_prices : Nat → Int) (s_letters : Nat → Int) (p_now : Nat → Int) (p_nowA : Nat) (p_next : Nat → Int) (p_nextA : Nat) (p_low : Int) (p_high : Int) : Option ((Nat → Int) × Nat × (Nat → Int) × Nat × Int × Int) :=
  vl (x3 - 1) fun x4_3 =>
  (zloop (fun a => m_X6_walkBack_5 x1 a.1 b_spellingsOf b_spellingRows b_spellingLengths b_spellingPrices b_prices s_letters a.2.1 a.2.2.1 a.2.2.2.1 a.2.2.2.2.1 a.2.2.2.2.2.1 a.2.2.2.2.2.2) FU (x4_3, p_now, p_nowA, p_next, p_nextA, p_low, p_high)).bind fun (t_5, x4_5, p_now_5, p_nowA_5, p_next_5, p_nextA_5, p_low_5, p_high_5) =>
  some (p_now_5, p_nowA_5, p_next_5, p_nextA_5, p_low_5, p_high_5)
def m_X6_foundAt (x1 : Int) (p_now : Nat → Int) (p_low : Int) (p_high : Int) : Option (Int) :=
  gd (inI x1) <|
  gd (inI p_low) <|
  if x1 < p_low then
    some 268435456
  else
    gd (inI p_high) <|
    if x1 ≤ p_high then
      gd (0 ≤ x1 ∧ x1 < 37) <|
      some (p_now (Int.toNat x1))
    else
      some 268435456
def m_X6_costOf_86 (x2 : Int) (x4 : Int) (b_spellingsOf : Nat → Int) (b_spellingRows : Nat → Int) (b_spellingLengths : Nat → Int) (b_spellingPrices : Nat → Int) (b_wordSounds : Nat → Int) (b_counts : Nat → Int) (b_endingSounds : Nat → Int) (b_endingPrices : Nat → Int) (b_prices : Nat → Int) (s_letters : Nat → Int) (p_now : Nat → Int) (p_nowA : Nat) (p_next : Nat → Int) (p_nextA : Nat) (p_low : Int) (p_high : Int) : Option (Int × (Nat → Int) × Nat × (Nat → Int) × Nat × Int × Int) :=
  gd (0 ≤ x4 ∧ x4 < 60) <|
  (m_X6_walkBack (b_wordSounds (Int.toNat x4)) 6 b_spellingsOf b_spellingRows b_spellingLengths b_spellingPrices b_prices s_letters p_now p_nowA p_next p_nextA p_low p_high).bind fun (p_now_99, p_nowA_99, p_next_99, p_nextA_99, p_low_99, p_high_99) =>
  (m_X6_foundAt x2 p_now_99 p_low_99 p_high_99).bind fun r_104 =>
  gd (inI r_104) <|
  if r_104 = 268435456 then
    some (268435456, p_now_99, p_nowA_99, p_next_99, p_nextA_99, p_low_99, p_high_99)
  else
    (m_X1_wordCost x4 b_counts b_prices).bind fun r_127 =>
    some ((r_127 + (r_104 / 16)), p_now_99, p_nowA_99, p_next_99, p_nextA_99, p_low_99, p_high_99)
def m_X6_costOf (x1 : Int) (x2 : Int) (x3 : Int) (b_spellingsOf : Nat → Int) (b_spellingRows : Nat → Int) (b_spellingLengths : Nat → Int) (b_spellingPrices : Nat → Int) (b_wordSounds : Nat → Int) (b_counts : Nat → Int) (b_endingSounds : Nat → Int) (b_endingPrices : Nat → Int) (b_prices : Nat → Int) (s_letters : Nat → Int) (p_now : Nat → Int) (p_nowA : Nat) (p_next : Nat → Int) (p_nextA : Nat) (p_low : Int) (p_high : Int) : Option (Int × (Nat → Int) × Nat × (Nat → Int) × Nat × Int × Int) :=
  gd (inI x1) <|
  if x1 = 540 then
    gd (inI x3) <|
    gd (inI (x2 + 1)) <|
    if x3 = (x2 + 1) then
      some ((b_prices (Int.toNat 1)), p_now, p_nowA, p_next, p_nextA, p_low, p_high)
    else
      some (268435456, p_now, p_nowA, p_next, p_nextA, p_low, p_high)
  else
    (m_X8_wordOf x1).bind fun r_30 =>
    (m_X8_endingOf x1).bind fun r_36 =>
    (m_X6_startAt x3 0 p_now p_low p_high).bind fun (p_now_44, p_low_44, p_high_44) =>
    gd (inI r_36) <|
    if r_36 = (-1) then
      m_X6_costOf_86 x2 r_30 b_spellingsOf b_spellingRows b_spellingLengths b_spellingPrices b_wordSounds b_counts b_endingSounds b_endingPrices b_prices s_letters p_now_44 p_nowA p_next p_nextA p_low_44 p_high_44
    else
      gd (0 ≤ r_36 ∧ r_36 < 8) <|
      gd (0 ≤ x3 ∧ x3 < 37) <|
      vl (uz p_now_44 (Int.toNat x3) ((b_endingPrices (Int.toNat r_36)) * 16)) fun p_now_70 =>
      gd (0 ≤ r_36 ∧ r_36 < 8) <|
      (m_X6_walkBack (b_endingSounds (Int.toNat r_36)) 3 b_spellingsOf b_spellingRows b_spellingLengths b_spellingPrices b_prices s_letters p_now_70 p_nowA p_next p_nextA p_low_44 p_high_44).bind fun (p_now_83, p_nowA_83, p_next_83, p_nextA_83, p_low_83, p_high_83) =>
      m_X6_costOf_86 x2 r_30 b_spellingsOf b_spellingRows b_spellingLengths b_spellingPrices b_wordSounds b_counts b_endingSounds b_endingPrices b_prices s_letters p_now_83 p_nowA_83 p_next_83 p_nextA_83 p_low_83 p_high_83
def m_X6_seedEndings_80 (x1 : Int) (x2 : Int) (x3 : Int) (x4 : Int) (b_spellingsOf : Nat → Int) (b_spellingRows : Nat → Int) (b_spellingLengths : Nat → Int) (b_spellingPrices : Nat → Int) (b_endings : Int) (b_endingSounds : Nat → Int) (b_endingClasses : Nat → Int) (b_endingPrices : Nat → Int) (b_prices : Nat → Int) (s_letters : Nat → Int) (p_now : Nat → Int) (p_nowA : Nat) (p_next : Nat → Int) (p_nextA : Nat) (p_low : Int) (p_high : Int) (p_seeds : Nat → Int) (p_seedLows : Nat → Int) : Option (Nat × (Int × (Nat → Int))) :=
  gd (inI x4) <|
  gd (inI p_high) <|
  if p_high < x4 then
    some (1, (x4, p_seeds))
  else
    vl ((x3 * 37) + x4) fun x5_96 =>
    gd (0 ≤ x5_96 ∧ x5_96 < 222) <|
    gd (0 ≤ x4 ∧ x4 < 37) <|
    gd (inI (p_seeds (Int.toNat x5_96))) <|
    gd (inI (p_now (Int.toNat x4))) <|
    gd (0 ≤ x5_96 ∧ x5_96 < 222) <|
    vl (uz p_seeds (Int.toNat x5_96) (min (p_seeds (Int.toNat x5_96)) (p_now (Int.toNat x4)))) fun p_seeds_121 =>
    vl (x4 + 1) fun x4_122 =>
    some (0, (x4_122, p_seeds_121))
def m_X6_seedEndings_19 (x1 : Int) (x2 : Int) (b_spellingsOf : Nat → Int) (b_spellingRows : Nat → Int) (b_spellingLengths : Nat → Int) (b_spellingPrices : Nat → Int) (b_endings : Int) (b_endingSounds : Nat → Int) (b_endingClasses : Nat → Int) (b_endingPrices : Nat → Int) (b_prices : Nat → Int) (s_letters : Nat → Int) (p_now : Nat → Int) (p_nowA : Nat) (p_next : Nat → Int) (p_nextA : Nat) (p_low : Int) (p_high : Int) (p_seeds : Nat → Int) (p_seedLows : Nat → Int) : Option (Nat × (Int × (Nat → Int) × Nat × (Nat → Int) × Nat × Int × Int × (Nat → Int) × (Nat → Int))) :=
  gd (inI x2) <|
  gd (inI b_endings) <|
  if b_endings ≤ x2 then
    some (1, (x2, p_now, p_nowA, p_next, p_nextA, p_low, p_high, p_seeds, p_seedLows))
  else
    gd (0 ≤ x2 ∧ x2 < 8) <|
    (m_X6_startAt x1 ((((b_endingPrices (Int.toNat x2)) * 16) + x2) + 1) p_now p_low p_high).bind fun (p_now_47, p_low_47, p_high_47) =>
    gd (0 ≤ x2 ∧ x2 < 8) <|
    (m_X6_walkBack (b_endingSounds (Int.toNat x2)) 3 b_spellingsOf b_spellingRows b_spellingLengths b_spellingPrices b_prices s_letters p_now_47 p_nowA p_next p_nextA p_low_47 p_high_47).bind fun (p_now_61, p_nowA_61, p_next_61, p_nextA_61, p_low_61, p_high_61) =>
    gd (0 ≤ x2 ∧ x2 < 8) <|
    vl (b_endingClasses (Int.toNat x2)) fun x3_73 =>
    (zloop (fun a => m_X6_seedEndings_80 x1 x2 x3_73 a.1 b_spellingsOf b_spellingRows b_spellingLengths b_spellingPrices b_endings b_endingSounds b_endingClasses b_endingPrices b_prices s_letters p_now_61 p_nowA_61 p_next_61 p_nextA_61 p_low_61 p_high_61 a.2 p_seedLows) FU (p_low_61, p_seeds)).bind fun (t_80, x4_80, p_seeds_80) =>
    gd (inI p_low_61) <|
    gd (inI p_high_61) <|
    if p_high_61 < p_low_61 then
      vl (x2 + 1) fun x2_158 =>
      some (0, (x2_158, p_now_61, p_nowA_61, p_next_61, p_nextA_61, p_low_61, p_high_61, p_seeds_80, p_seedLows))
    else
      gd (0 ≤ x3_73 ∧ x3_73 < 6) <|
      gd (inI (p_seedLows (Int.toNat x3_73))) <|
      gd (0 ≤ x3_73 ∧ x3_73 < 6) <|
      vl (uz p_seedLows (Int.toNat x3_73) (min (p_seedLows (Int.toNat x3_73)) p_low_61)) fun p_seedLows_157 =>
      vl (x2 + 1) fun x2_158_v2 =>
      some (0, (x2_158_v2, p_now_61, p_nowA_61, p_next_61, p_nextA_61, p_low_61, p_high_61, p_seeds_80, p_seedLows_157))
def m_X6_seedEndings (x1 : Int) (b_spellingsOf : Nat → Int) (b_spellingRows : Nat → Int) (b_spellingLengths : Nat → Int) (b_spellingPrices : Nat → Int) (b_endings : Int) (b_endingSounds : Nat → Int) (b_endingClasses : Nat → Int) (b_endingPrices : Nat → Int) (b_prices : Nat → Int) (s_letters : Nat → Int) (p_now : Nat → Int) (p_nowA : Nat) (p_next : Nat → Int) (p_nextA : Nat) (p_low : Int) (p_high : Int) (p_seeds : Nat → Int) (p_seedLows : Nat → Int) : Option ((Nat → Int) × Nat × (Nat → Int) × Nat × Int × Int × (Nat → Int) × (Nat → Int)) :=
  (m_J7_fill_53178 x1 p_seedLows 6).bind fun p_seedLows_5 =>
  (m_J7_fill_53178 268435456 p_seeds 222).bind fun p_seeds_14 =>
  (zloop (fun a => m_X6_seedEndings_19 x1 a.1 b_spellingsOf b_spellingRows b_spellingLengths b_spellingPrices b_endings b_endingSounds b_endingClasses b_endingPrices b_prices s_letters a.2.1 a.2.2.1 a.2.2.2.1 a.2.2.2.2.1 a.2.2.2.2.2.1 a.2.2.2.2.2.2.1 a.2.2.2.2.2.2.2.1 a.2.2.2.2.2.2.2.2) FU (0, p_now, p_nowA, p_next, p_nextA, p_low, p_high, p_seeds_14, p_seedLows_5)).bind fun (t_19, x2_19, p_now_19, p_nowA_19, p_next_19, p_nextA_19, p_low_19, p_high_19, p_seeds_19, p_seedLows_19) =>
  some (p_now_19, p_nowA_19, p_next_19, p_nextA_19, p_low_19, p_high_19, p_seeds_19, p_seedLows_19)
def m_X6_walkWord_61 (x1 : Int) (b_spellingsOf : Nat → Int) (b_spellingRows : Nat → Int) (b_spellingLengths : Nat → Int) (b_spellingPrices : Nat → Int) (b_wordSounds : Nat → Int) (b_wordClasses : Nat → Int) (b_prices : Nat → Int) (s_letters : Nat → Int) (p_now : Nat → Int) (p_nowA : Nat) (p_next : Nat → Int) (p_nextA : Nat) (p_low : Int) (p_high : Int) (p_seeds : Nat → Int) (p_seedLows : Nat → Int) : Option ((Nat → Int) × Nat × (Nat → Int) × Nat × Int × Int) :=
  gd (0 ≤ x1 ∧ x1 < 60) <|
  (m_X6_walkBack (b_wordSounds (Int.toNat x1)) 6 b_spellingsOf b_spellingRows b_spellingLengths b_spellingPrices b_prices s_letters p_now p_nowA p_next p_nextA p_low p_high).bind fun (p_now_73, p_nowA_73, p_next_73, p_nextA_73, p_low_73, p_high_73) =>
  some (p_now_73, p_nowA_73, p_next_73, p_nextA_73, p_low_73, p_high_73)
def m_X6_walkWord (x1 : Int) (x2 : Int) (b_spellingsOf : Nat → Int) (b_spellingRows : Nat → Int) (b_spellingLengths : Nat → Int) (b_spellingPrices : Nat → Int) (b_wordSounds : Nat → Int) (b_wordClasses : Nat → Int) (b_prices : Nat → Int) (s_letters : Nat → Int) (p_now : Nat → Int) (p_nowA : Nat) (p_next : Nat → Int) (p_nextA : Nat) (p_low : Int) (p_high : Int) (p_seeds : Nat → Int) (p_seedLows : Nat → Int) : Option ((Nat → Int) × Nat × (Nat → Int) × Nat × Int × Int) :=
  (m_X6_startAt x2 0 p_now p_low p_high).bind fun (p_now_3, p_low_3, p_high_3) =>
  gd (0 ≤ x1 ∧ x1 < 60) <|
  vl (b_wordClasses (Int.toNat x1)) fun x3_15 =>
  gd (inI x3_15) <|
  if x3_15 = (-1) then
    m_X6_walkWord_61 x1 b_spellingsOf b_spellingRows b_spellingLengths b_spellingPrices b_wordSounds b_wordClasses b_prices s_letters p_now_3 p_nowA p_next p_nextA p_low_3 p_high_3 p_seeds p_seedLows
  else
    gd (0 ≤ x3_15 ∧ x3_15 < 6) <|
    vl (p_seedLows (Int.toNat x3_15)) fun p_low_28 =>
    gd (0 ≤ ((x3_15 * 37) + p_low_28) ∧ 0 ≤ p_low_28 ∧ 0 ≤ (x2 - p_low_28) ∧ ((x3_15 * 37) + p_low_28) + (x2 - p_low_28) ≤ 222 ∧ p_low_28 + (x2 - p_low_28) ≤ 37) <|
    vl (zcp p_seeds p_now_3 (Int.toNat ((x3_15 * 37) + p_low_28)) (Int.toNat p_low_28) (Int.toNat (x2 - p_low_28))) fun p_now_58 =>
    m_X6_walkWord_61 x1 b_spellingsOf b_spellingRows b_spellingLengths b_spellingPrices b_wordSounds b_wordClasses b_prices s_letters p_now_58 p_nowA p_next p_nextA p_low_28 p_high_3 p_seeds p_seedLows
def m_X5_enter_18 (x1 : Int) (x2 : Int) (x3 : Int) (x4 : Int) (b_counts : Nat → Int) (b_prices : Nat → Int) (v_values : Nat → Int) (p_now : Nat → Int) (p_low : Int) (p_high : Int) : Option (Nat × (Int × (Nat → Int))) :=
  gd (inI x4) <|
  gd (inI p_high) <|
  if p_high < x4 then
    some (1, (x4, v_values))
  else
    gd (0 ≤ x4 ∧ x4 < 37) <|
    vl (p_now (Int.toNat x4)) fun x5_40 =>
    gd (inI x5_40) <|
    if x5_40 = 268435456 then
      vl (x4 + 1) fun x4_103 =>
      some (0, (x4_103, v_values))
    else
      vl ((x1 * 9) + (x5_40 % 16)) fun x6_59 =>
      vl (((x3 + (x5_40 / 16)) * 1024) + x6_59) fun x7_73 =>
      vl (x2 + (x4 * 9)) fun x8_82 =>
      gd (0 ≤ x8_82 ∧ x8_82 < 5994) <|
      gd (inI (v_values (Int.toNat x8_82))) <|
      gd (inI x7_73) <|
      gd (0 ≤ x8_82 ∧ x8_82 < 5994) <|
      vl (uz v_values (Int.toNat x8_82) (min (v_values (Int.toNat x8_82)) x7_73)) fun v_values_102 =>
      vl (x4 + 1) fun x4_103_v2 =>
      some (0, (x4_103_v2, v_values_102))
def m_X5_enter (x1 : Int) (x2 : Int) (b_counts : Nat → Int) (b_prices : Nat → Int) (v_values : Nat → Int) (p_now : Nat → Int) (p_low : Int) (p_high : Int) : Option ((Nat → Int)) :=
  (m_X1_wordCost x1 b_counts b_prices).bind fun r_5 =>
  (zloop (fun a => m_X5_enter_18 x1 x2 r_5 a.1 b_counts b_prices a.2 p_now p_low p_high) FU (p_low, v_values)).bind fun (t_18, x4_18, v_values_18) =>
  some v_values_18
def m_X5_fillColumn_57 (x1 : Int) (x2 : Int) (x3 : Int) (b_spellingsOf : Nat → Int) (b_spellingRows : Nat → Int) (b_spellingLengths : Nat → Int) (b_spellingPrices : Nat → Int) (b_words : Int) (b_wordSounds : Nat → Int) (b_wordKinds : Nat → Int) (b_wordClasses : Nat → Int) (b_counts : Nat → Int) (b_prices : Nat → Int) (s_letters : Nat → Int) (v_values : Nat → Int) (p_now : Nat → Int) (p_nowA : Nat) (p_next : Nat → Int) (p_nextA : Nat) (p_low : Int) (p_high : Int) (p_seeds : Nat → Int) (p_seedLows : Nat → Int) : Option (Nat × (Int × (Nat → Int) × (Nat → Int) × Nat × (Nat → Int) × Nat × Int × Int)) :=
  gd (inI x3) <|
  gd (inI b_words) <|
  if b_words ≤ x3 then
    some (1, (x3, v_values, p_now, p_nowA, p_next, p_nextA, p_low, p_high))
  else
    (m_X6_walkWord x3 x1 b_spellingsOf b_spellingRows b_spellingLengths b_spellingPrices b_wordSounds b_wordClasses b_prices s_letters p_now p_nowA p_next p_nextA p_low p_high p_seeds p_seedLows).bind fun (p_now_74, p_nowA_74, p_next_74, p_nextA_74, p_low_74, p_high_74) =>
    gd (inI p_low_74) <|
    gd (inI p_high_74) <|
    if p_high_74 < p_low_74 then
      vl (x3 + 1) fun x3_110 =>
      some (0, (x3_110, v_values, p_now_74, p_nowA_74, p_next_74, p_nextA_74, p_low_74, p_high_74))
    else
      gd (0 ≤ x3 ∧ x3 < 60) <|
      (m_X5_enter x3 (x2 + (b_wordKinds (Int.toNat x3))) b_counts b_prices v_values p_now_74 p_low_74 p_high_74).bind fun v_values_107 =>
      vl (x3 + 1) fun x3_110_v2 =>
      some (0, (x3_110_v2, v_values_107, p_now_74, p_nowA_74, p_next_74, p_nextA_74, p_low_74, p_high_74))
def m_X5_fillColumn (x1 : Int) (b_spellingsOf : Nat → Int) (b_spellingRows : Nat → Int) (b_spellingLengths : Nat → Int) (b_spellingPrices : Nat → Int) (b_words : Int) (b_wordSounds : Nat → Int) (b_wordKinds : Nat → Int) (b_wordClasses : Nat → Int) (b_counts : Nat → Int) (b_prices : Nat → Int) (s_letters : Nat → Int) (v_values : Nat → Int) (p_now : Nat → Int) (p_nowA : Nat) (p_next : Nat → Int) (p_nextA : Nat) (p_low : Int) (p_high : Int) (p_seeds : Nat → Int) (p_seedLows : Nat → Int) : Option ((Nat → Int) × (Nat → Int) × Nat × (Nat → Int) × Nat × Int × Int) :=
  (m_X5_placeOf 0 x1).bind fun r_3 =>
  (m_X8_fillRange r_3 (r_3 + (x1 * 9)) 2147483647 v_values 5994).bind fun v_values_20 =>
  (m_X5_placeOf (x1 - 1) x1).bind fun r_32 =>
  gd (0 ≤ (r_32 + 8) ∧ (r_32 + 8) < 5994) <|
  vl (uz v_values_20 (Int.toNat (r_32 + 8)) (((b_prices (Int.toNat 1)) * 1024) + 540)) fun v_values_54 =>
  (zloop (fun a => m_X5_fillColumn_57 x1 r_3 a.1 b_spellingsOf b_spellingRows b_spellingLengths b_spellingPrices b_words b_wordSounds b_wordKinds b_wordClasses b_counts b_prices s_letters a.2.1 a.2.2.1 a.2.2.2.1 a.2.2.2.2.1 a.2.2.2.2.2.1 a.2.2.2.2.2.2.1 a.2.2.2.2.2.2.2 p_seeds p_seedLows) FU (0, v_values_54, p_now, p_nowA, p_next, p_nextA, p_low, p_high)).bind fun (t_57, x3_57, v_values_57, p_now_57, p_nowA_57, p_next_57, p_nextA_57, p_low_57, p_high_57) =>
  some (v_values_57, p_now_57, p_nowA_57, p_next_57, p_nextA_57, p_low_57, p_high_57)
def m_X5_renew_2 (x1 : Int) (b_spellingsOf : Nat → Int) (b_spellingRows : Nat → Int) (b_spellingLengths : Nat → Int) (b_spellingPrices : Nat → Int) (b_words : Int) (b_wordSounds : Nat → Int) (b_wordKinds : Nat → Int) (b_wordClasses : Nat → Int) (b_counts : Nat → Int) (b_endings : Int) (b_endingSounds : Nat → Int) (b_endingClasses : Nat → Int) (b_endingPrices : Nat → Int) (b_prices : Nat → Int) (s_length : Int) (s_letters : Nat → Int) (v_values : Nat → Int) (v_lettersRead : Nat → Int) (v_columns : Int) (p_now : Nat → Int) (p_nowA : Nat) (p_next : Nat → Int) (p_nextA : Nat) (p_low : Int) (p_high : Int) (p_seeds : Nat → Int) (p_seedLows : Nat → Int) : Option (Nat × (Int)) :=
  gd (inI x1) <|
  gd (inI v_columns) <|
  if v_columns ≤ x1 then
    some (1, x1)
  else
    gd (inI s_length) <|
    if s_length ≤ x1 then
      some (1, x1)
    else
      gd (0 ≤ x1 ∧ x1 < 36) <|
      gd (0 ≤ x1 ∧ x1 < 36) <|
      gd (inI (v_lettersRead (Int.toNat x1))) <|
      gd (inI (s_letters (Int.toNat x1))) <|
      if (v_lettersRead (Int.toNat x1)) = (s_letters (Int.toNat x1)) then
        vl (x1 + 1) fun x1_39 =>
        some (0, x1_39)
      else
        some (1, x1)
def m_X5_renew_49 (x2 : Int) (b_spellingsOf : Nat → Int) (b_spellingRows : Nat → Int) (b_spellingLengths : Nat → Int) (b_spellingPrices : Nat → Int) (b_words : Int) (b_wordSounds : Nat → Int) (b_wordKinds : Nat → Int) (b_wordClasses : Nat → Int) (b_counts : Nat → Int) (b_endings : Int) (b_endingSounds : Nat → Int) (b_endingClasses : Nat → Int) (b_endingPrices : Nat → Int) (b_prices : Nat → Int) (s_length : Int) (s_letters : Nat → Int) (v_values : Nat → Int) (v_lettersRead : Nat → Int) (v_columns : Int) (p_now : Nat → Int) (p_nowA : Nat) (p_next : Nat → Int) (p_nextA : Nat) (p_low : Int) (p_high : Int) (p_seeds : Nat → Int) (p_seedLows : Nat → Int) : Option (Nat × (Int × (Nat → Int) × (Nat → Int) × Int × (Nat → Int) × Nat × (Nat → Int) × Nat × Int × Int × (Nat → Int) × (Nat → Int))) :=
  gd (inI x2) <|
  gd (inI s_length) <|
  if s_length < x2 then
    some (1, (x2, v_values, v_lettersRead, v_columns, p_now, p_nowA, p_next, p_nextA, p_low, p_high, p_seeds, p_seedLows))
  else
    gd (0 ≤ (x2 - 1) ∧ (x2 - 1) < 36) <|
    gd (0 ≤ (x2 - 1) ∧ (x2 - 1) < 36) <|
    vl (uz v_lettersRead (Int.toNat (x2 - 1)) (s_letters (Int.toNat (x2 - 1)))) fun v_lettersRead_78 =>
    (m_X6_seedEndings x2 b_spellingsOf b_spellingRows b_spellingLengths b_spellingPrices b_endings b_endingSounds b_endingClasses b_endingPrices b_prices s_letters p_now p_nowA p_next p_nextA p_low p_high p_seeds p_seedLows).bind fun (p_now_84, p_nowA_84, p_next_84, p_nextA_84, p_low_84, p_high_84, p_seeds_84, p_seedLows_84) =>
    (m_X5_fillColumn x2 b_spellingsOf b_spellingRows b_spellingLengths b_spellingPrices b_words b_wordSounds b_wordKinds b_wordClasses b_counts b_prices s_letters v_values p_now_84 p_nowA_84 p_next_84 p_nextA_84 p_low_84 p_high_84 p_seeds_84 p_seedLows_84).bind fun (v_values_89, p_now_89, p_nowA_89, p_next_89, p_nextA_89, p_low_89, p_high_89) =>
    vl (x2 + 1) fun x2_97 =>
    some (0, (x2_97, v_values_89, v_lettersRead_78, x2, p_now_89, p_nowA_89, p_next_89, p_nextA_89, p_low_89, p_high_89, p_seeds_84, p_seedLows_84))
def m_X5_renew_45 (x1 : Int) (b_spellingsOf : Nat → Int) (b_spellingRows : Nat → Int) (b_spellingLengths : Nat → Int) (b_spellingPrices : Nat → Int) (b_words : Int) (b_wordSounds : Nat → Int) (b_wordKinds : Nat → Int) (b_wordClasses : Nat → Int) (b_counts : Nat → Int) (b_endings : Int) (b_endingSounds : Nat → Int) (b_endingClasses : Nat → Int) (b_endingPrices : Nat → Int) (b_prices : Nat → Int) (s_length : Int) (s_letters : Nat → Int) (v_values : Nat → Int) (v_lettersRead : Nat → Int) (v_columns : Int) (p_now : Nat → Int) (p_nowA : Nat) (p_next : Nat → Int) (p_nextA : Nat) (p_low : Int) (p_high : Int) (p_seeds : Nat → Int) (p_seedLows : Nat → Int) : Option ((Nat → Int) × (Nat → Int) × Int × (Nat → Int) × Nat × (Nat → Int) × Nat × Int × Int × (Nat → Int) × (Nat → Int)) :=
  vl (x1 + 1) fun x2_48 =>
  (zloop (fun a => m_X5_renew_49 a.1 b_spellingsOf b_spellingRows b_spellingLengths b_spellingPrices b_words b_wordSounds b_wordKinds b_wordClasses b_counts b_endings b_endingSounds b_endingClasses b_endingPrices b_prices s_length s_letters a.2.1 a.2.2.1 a.2.2.2.1 a.2.2.2.2.1 a.2.2.2.2.2.1 a.2.2.2.2.2.2.1 a.2.2.2.2.2.2.2.1 a.2.2.2.2.2.2.2.2.1 a.2.2.2.2.2.2.2.2.2.1 a.2.2.2.2.2.2.2.2.2.2.1 a.2.2.2.2.2.2.2.2.2.2.2) FU (x2_48, v_values, v_lettersRead, v_columns, p_now, p_nowA, p_next, p_nextA, p_low, p_high, p_seeds, p_seedLows)).bind fun (t_49, x2_49, v_values_49, v_lettersRead_49, v_columns_49, p_now_49, p_nowA_49, p_next_49, p_nextA_49, p_low_49, p_high_49, p_seeds_49, p_seedLows_49) =>
  some (v_values_49, v_lettersRead_49, v_columns_49, p_now_49, p_nowA_49, p_next_49, p_nextA_49, p_low_49, p_high_49, p_seeds_49, p_seedLows_49)
def m_X5_renew (b_spellingsOf : Nat → Int) (b_spellingRows : Nat → Int) (b_spellingLengths : Nat → Int) (b_spellingPrices : Nat → Int) (b_words : Int) (b_wordSounds : Nat → Int) (b_wordKinds : Nat → Int) (b_wordClasses : Nat → Int) (b_counts : Nat → Int) (b_endings : Int) (b_endingSounds : Nat → Int) (b_endingClasses : Nat → Int) (b_endingPrices : Nat → Int) (b_prices : Nat → Int) (s_length : Int) (s_letters : Nat → Int) (v_values : Nat → Int) (v_lettersRead : Nat → Int) (v_columns : Int) (p_now : Nat → Int) (p_nowA : Nat) (p_next : Nat → Int) (p_nextA : Nat) (p_low : Int) (p_high : Int) (p_seeds : Nat → Int) (p_seedLows : Nat → Int) : Option ((Nat → Int) × (Nat → Int) × Int × (Nat → Int) × Nat × (Nat → Int) × Nat × Int × Int × (Nat → Int) × (Nat → Int)) :=
  (zloop (fun a => m_X5_renew_2 a b_spellingsOf b_spellingRows b_spellingLengths b_spellingPrices b_words b_wordSounds b_wordKinds b_wordClasses b_counts b_endings b_endingSounds b_endingClasses b_endingPrices b_prices s_length s_letters v_values v_lettersRead v_columns p_now p_nowA p_next p_nextA p_low p_high p_seeds p_seedLows) FU 0).bind fun (t_2, x1_2) =>
  m_X5_renew_45 x1_2 b_spellingsOf b_spellingRows b_spellingLengths b_spellingPrices b_words b_wordSounds b_wordKinds b_wordClasses b_counts b_endings b_endingSounds b_endingClasses b_endingPrices b_prices s_length s_letters v_values v_lettersRead v_columns p_now p_nowA p_next p_nextA p_low p_high p_seeds p_seedLows
def m_X5_forget (v_columns : Int) : Option (Int) :=
  some 0
def m_X3_valueOf_67 (x1 : Int) (t0 : Int) (b_wordKinds : Nat → Int) (r_fixedValues : Nat → Int) (s_fixed : Nat → Int) (v_values : Nat → Int) : Option (Int) :=
  gd (inI t0) <|
  if t0 = 0 then
    some 2147483647
  else
    gd (0 ≤ x1 ∧ x1 < 36) <|
    some (r_fixedValues (Int.toNat x1))
def m_X3_valueOf_66 (x1 : Int) (b_wordKinds : Nat → Int) (r_fixedValues : Nat → Int) (s_fixed : Nat → Int) (v_values : Nat → Int) : Option (Int) :=
  m_X3_valueOf_67 x1 0 b_wordKinds r_fixedValues s_fixed v_values
def m_X3_valueOf (x1 : Int) (x2 : Int) (x3 : Int) (b_wordKinds : Nat → Int) (r_fixedValues : Nat → Int) (s_fixed : Nat → Int) (v_values : Nat → Int) : Option (Int) :=
  gd (0 ≤ x1 ∧ x1 < 36) <|
  vl (s_fixed (Int.toNat x1)) fun x4_9 =>
  gd (inI x4_9) <|
  if x4_9 = 0 then
    (m_X5_placeOf x1 x2).bind fun r_29 =>
    gd (0 ≤ (r_29 + x3) ∧ (r_29 + x3) < 5994) <|
    some (v_values (Int.toNat (r_29 + x3)))
  else
    gd (inI (x4_9 / 1024)) <|
    gd (inI x2) <|
    if (x4_9 / 1024) = x2 then
      (m_X1_kindOf (x4_9 % 1024) b_wordKinds).bind fun r_55 =>
      gd (inI r_55) <|
      gd (inI x3) <|
      if r_55 = x3 then
        m_X3_valueOf_67 x1 1 b_wordKinds r_fixedValues s_fixed v_values
      else
        m_X3_valueOf_66 x1 b_wordKinds r_fixedValues s_fixed v_values
    else
      m_X3_valueOf_66 x1 b_wordKinds r_fixedValues s_fixed v_values
def m_X3_forget (r_known : Int) : Option (Int) :=
  some 0
def m_X3_valueFixedParts_2 (x1 : Int) (b_spellingsOf : Nat → Int) (b_spellingRows : Nat → Int) (b_spellingLengths : Nat → Int) (b_spellingPrices : Nat → Int) (b_wordSounds : Nat → Int) (b_counts : Nat → Int) (b_endingSounds : Nat → Int) (b_endingPrices : Nat → Int) (b_prices : Nat → Int) (r_fixedValues : Nat → Int) (s_length : Int) (s_letters : Nat → Int) (s_fixed : Nat → Int) (p_now : Nat → Int) (p_nowA : Nat) (p_next : Nat → Int) (p_nextA : Nat) (p_low : Int) (p_high : Int) : Option (Nat × (Int × (Nat → Int) × (Nat → Int) × Nat × (Nat → Int) × Nat × Int × Int)) :=
  gd (inI x1) <|
  gd (inI s_length) <|
  if s_length ≤ x1 then
    some (1, (x1, r_fixedValues, p_now, p_nowA, p_next, p_nextA, p_low, p_high))
  else
    gd (0 ≤ x1 ∧ x1 < 36) <|
    gd (inI (s_fixed (Int.toNat x1))) <|
    if (s_fixed (Int.toNat x1)) = 0 then
      vl (x1 + 1) fun x1_84 =>
      some (0, (x1_84, r_fixedValues, p_now, p_nowA, p_next, p_nextA, p_low, p_high))
    else
      gd (0 ≤ x1 ∧ x1 < 36) <|
      vl ((s_fixed (Int.toNat x1)) % 1024) fun x2_38 =>
      gd (0 ≤ x1 ∧ x1 < 36) <|
      (m_X6_costOf x2_38 x1 ((s_fixed (Int.toNat x1)) / 1024) b_spellingsOf b_spellingRows b_spellingLengths b_spellingPrices b_wordSounds b_counts b_endingSounds b_endingPrices b_prices s_letters p_now p_nowA p_next p_nextA p_low p_high).bind fun (r_57, p_now_57, p_nowA_57, p_next_57, p_nextA_57, p_low_57, p_high_57) =>
      gd (inI r_57) <|
      if r_57 = 268435456 then
        gd (0 ≤ x1 ∧ x1 < 36) <|
        vl (uz r_fixedValues (Int.toNat x1) 2147483647) fun r_fixedValues_83_v2 =>
        vl (x1 + 1) fun x1_84_v3 =>
        some (0, (x1_84_v3, r_fixedValues_83_v2, p_now_57, p_nowA_57, p_next_57, p_nextA_57, p_low_57, p_high_57))
      else
        gd (0 ≤ x1 ∧ x1 < 36) <|
        vl (uz r_fixedValues (Int.toNat x1) ((r_57 * 1024) + x2_38)) fun r_fixedValues_83 =>
        vl (x1 + 1) fun x1_84_v2 =>
        some (0, (x1_84_v2, r_fixedValues_83, p_now_57, p_nowA_57, p_next_57, p_nextA_57, p_low_57, p_high_57))
def m_X3_valueFixedParts (b_spellingsOf : Nat → Int) (b_spellingRows : Nat → Int) (b_spellingLengths : Nat → Int) (b_spellingPrices : Nat → Int) (b_wordSounds : Nat → Int) (b_counts : Nat → Int) (b_endingSounds : Nat → Int) (b_endingPrices : Nat → Int) (b_prices : Nat → Int) (r_fixedValues : Nat → Int) (s_length : Int) (s_letters : Nat → Int) (s_fixed : Nat → Int) (p_now : Nat → Int) (p_nowA : Nat) (p_next : Nat → Int) (p_nextA : Nat) (p_low : Int) (p_high : Int) : Option ((Nat → Int) × (Nat → Int) × Nat × (Nat → Int) × Nat × Int × Int) :=
  (zloop (fun a => m_X3_valueFixedParts_2 a.1 b_spellingsOf b_spellingRows b_spellingLengths b_spellingPrices b_wordSounds b_counts b_endingSounds b_endingPrices b_prices a.2.1 s_length s_letters s_fixed a.2.2.1 a.2.2.2.1 a.2.2.2.2.1 a.2.2.2.2.2.1 a.2.2.2.2.2.2.1 a.2.2.2.2.2.2.2) FU (0, r_fixedValues, p_now, p_nowA, p_next, p_nextA, p_low, p_high)).bind fun (t_2, x1_2, r_fixedValues_2, p_now_2, p_nowA_2, p_next_2, p_nextA_2, p_low_2, p_high_2) =>
  some (r_fixedValues_2, p_now_2, p_nowA_2, p_next_2, p_nextA_2, p_low_2, p_high_2)
def m_X3_fillHeads_52 (x1 : Int) (x2 : Int) (x3 : Int) (x4 : Int) (b_wordKinds : Nat → Int) (r_fixedValues : Nat → Int) (r_heads : Nat → Int) (r_rests : Nat → Int) (s_length : Int) (s_breaks : Nat → Int) (s_fixed : Nat → Int) (v_values : Nat → Int) : Option (Nat × (Int × (Nat → Int))) :=
  gd (inI x4) <|
  if 9 ≤ x4 then
    some (1, (x4, r_heads))
  else
    (m_X4_partsAt x3 s_length s_breaks).bind fun r_64 =>
    gd (inI r_64) <|
    if r_64 = 0 then
      some (1, (x4, r_heads))
    else
      (m_X3_valueOf x1 x3 x4 b_wordKinds r_fixedValues s_fixed v_values).bind fun r_75 =>
      gd (0 ≤ ((x3 * 9) + x4) ∧ ((x3 * 9) + x4) < 333) <|
      vl (r_rests (Int.toNat ((x3 * 9) + x4))) fun x6_92 =>
      gd (inI r_75) <|
      if r_75 = 2147483647 then
        vl (x4 + 1) fun x4_142 =>
        some (0, (x4_142, r_heads))
      else
        gd (inI x6_92) <|
        if 268435456 ≤ x6_92 then
          vl (x4 + 1) fun x4_142_v2 =>
          some (0, (x4_142_v2, r_heads))
        else
          vl ((x1 * 9) + x4) fun x7_115 =>
          gd (0 ≤ x7_115 ∧ x7_115 < 324) <|
          gd (inI (r_heads (Int.toNat x7_115))) <|
          gd (inI ((r_75 / 1024) + x6_92)) <|
          gd (0 ≤ x7_115 ∧ x7_115 < 324) <|
          vl (uz r_heads (Int.toNat x7_115) (min (r_heads (Int.toNat x7_115)) ((r_75 / 1024) + x6_92))) fun r_heads_141 =>
          vl (x4 + 1) fun x4_142_v3 =>
          some (0, (x4_142_v3, r_heads_141))
def m_X3_fillHeads_44 (x1 : Int) (x2 : Int) (x3 : Int) (b_wordKinds : Nat → Int) (r_fixedValues : Nat → Int) (r_heads : Nat → Int) (r_rests : Nat → Int) (s_length : Int) (s_breaks : Nat → Int) (s_fixed : Nat → Int) (v_values : Nat → Int) : Option (Nat × (Int × (Nat → Int))) :=
  gd (inI x3) <|
  gd (inI x2) <|
  if x2 < x3 then
    some (1, (x3, r_heads))
  else
    (zloop (fun a => m_X3_fillHeads_52 x1 x2 x3 a.1 b_wordKinds r_fixedValues a.2 r_rests s_length s_breaks s_fixed v_values) FU (0, r_heads)).bind fun (t_52, x4_52, r_heads_52) =>
    vl (x3 + 1) fun x3_148 =>
    some (0, (x3_148, r_heads_52))
def m_X3_fillHeads (x1 : Int) (b_wordKinds : Nat → Int) (r_fixedValues : Nat → Int) (r_heads : Nat → Int) (r_rests : Nat → Int) (s_length : Int) (s_breaks : Nat → Int) (s_fixed : Nat → Int) (v_values : Nat → Int) : Option ((Nat → Int)) :=
  (m_X8_fillRange (x1 * 9) ((x1 + 1) * 9) 268435456 r_heads 324).bind fun r_heads_16 =>
  (m_X4_partsAt x1 s_length s_breaks).bind fun r_24 =>
  gd (inI r_24) <|
  if r_24 = 0 then
    some r_heads_16
  else
    (m_X4_reachFrom x1 s_length s_breaks).bind fun r_36 =>
    vl (x1 + 1) fun x3_43 =>
    (zloop (fun a => m_X3_fillHeads_44 x1 r_36 a.1 b_wordKinds r_fixedValues a.2 r_rests s_length s_breaks s_fixed v_values) FU (x3_43, r_heads_16)).bind fun (t_44, x3_44, r_heads_44) =>
    some r_heads_44
def m_X3_fillRests_14 (x1 : Int) (x2 : Int) (x3 : Int) (x4 : Int) (b_stepCosts : Nat → Int) (r_heads : Nat → Int) (r_rests : Nat → Int) : Option (Nat × (Int × Int)) :=
  gd (inI x4) <|
  if 9 ≤ x4 then
    some (1, (x3, x4))
  else
    gd (0 ≤ ((x1 * 9) + x4) ∧ ((x1 * 9) + x4) < 324) <|
    vl (r_heads (Int.toNat ((x1 * 9) + x4))) fun x5_33 =>
    gd (inI x5_33) <|
    if 268435456 ≤ x5_33 then
      vl (x4 + 1) fun x4_65 =>
      some (0, (x3, x4_65))
    else
      gd (0 ≤ ((x2 * 9) + x4) ∧ ((x2 * 9) + x4) < 81) <|
      gd (inI x3) <|
      gd (inI (x5_33 + (b_stepCosts (Int.toNat ((x2 * 9) + x4))))) <|
      vl (min x3 (x5_33 + (b_stepCosts (Int.toNat ((x2 * 9) + x4))))) fun x3_64 =>
      vl (x4 + 1) fun x4_65_v2 =>
      some (0, (x3_64, x4_65_v2))
def m_X3_fillRests_2 (x1 : Int) (x2 : Int) (b_stepCosts : Nat → Int) (r_heads : Nat → Int) (r_rests : Nat → Int) : Option (Nat × (Int × (Nat → Int))) :=
  gd (inI x2) <|
  if 9 ≤ x2 then
    some (1, (x2, r_rests))
  else
    (zloop (fun a => m_X3_fillRests_14 x1 x2 a.1 a.2 b_stepCosts r_heads r_rests) FU (268435456, 0)).bind fun (t_14, x3_14, x4_14) =>
    gd (0 ≤ ((x1 * 9) + x2) ∧ ((x1 * 9) + x2) < 333) <|
    vl (uz r_rests (Int.toNat ((x1 * 9) + x2)) x3_14) fun r_rests_82 =>
    vl (x2 + 1) fun x2_83 =>
    some (0, (x2_83, r_rests_82))
def m_X3_fillRests (x1 : Int) (b_stepCosts : Nat → Int) (r_heads : Nat → Int) (r_rests : Nat → Int) : Option ((Nat → Int)) :=
  (zloop (fun a => m_X3_fillRests_2 x1 a.1 b_stepCosts r_heads a.2) FU (0, r_rests)).bind fun (t_2, x2_2, r_rests_2) =>
  some r_rests_2
def m_X3_leastHead_5 (x1 : Int) (x2 : Int) (r_heads : Nat → Int) : Option (Nat × (Int × Int)) :=
  gd (inI x2) <|
  if 9 ≤ x2 then
    some (1, (x1, x2))
  else
    gd (0 ≤ x2 ∧ x2 < 324) <|
    gd (inI x1) <|
    gd (inI (r_heads (Int.toNat x2))) <|
    vl (min x1 (r_heads (Int.toNat x2))) fun x1_21 =>
    vl (x2 + 1) fun x2_22 =>
    some (0, (x1_21, x2_22))
def m_X3_leastHead (r_heads : Nat → Int) : Option (Int) :=
  (zloop (fun a => m_X3_leastHead_5 a.1 a.2 r_heads) FU (268435456, 0)).bind fun (t_5, x1_5, x2_5) =>
  some x1_5
def m_X3_costFrom_42 (x1 : Int) (x2 : Int) (x3 : Int) (t0 : Int) (b_wordKinds : Nat → Int) (b_stepCosts : Nat → Int) (r_rests : Nat → Int) (r_length : Int) (r_entries : Nat → Int) : Option (Int) :=
  gd (inI x1) <|
  gd (0 ≤ ((x2 * 9) + x3) ∧ ((x2 * 9) + x3) < 333) <|
  some ((t0 + (x1 / 1024)) + (r_rests (Int.toNat ((x2 * 9) + x3))))
def m_X3_costFrom (x1 : Int) (x2 : Int) (x3 : Int) (b_wordKinds : Nat → Int) (b_stepCosts : Nat → Int) (r_rests : Nat → Int) (r_length : Int) (r_entries : Nat → Int) : Option (Int) :=
  gd (inI r_length) <|
  if r_length = 0 then
    m_X3_costFrom_42 x1 x2 x3 0 b_wordKinds b_stepCosts r_rests r_length r_entries
  else
    gd (0 ≤ (r_length - 1) ∧ (r_length - 1) < 36) <|
    (m_X1_kindOf (r_entries (Int.toNat (r_length - 1))) b_wordKinds).bind fun r_33 =>
    gd (0 ≤ ((r_33 * 9) + x3) ∧ ((r_33 * 9) + x3) < 81) <|
    m_X3_costFrom_42 x1 x2 x3 (b_stepCosts (Int.toNat ((r_33 * 9) + x3))) b_wordKinds b_stepCosts r_rests r_length r_entries
def m_X3_followPart_86 (x1 : Int) (x2 : Int) (x3 : Int) (x4 : Int) (x5 : Int) (x6 : Int) (x7 : Int) (x8 : Int) (t0 : Int) (b_wordKinds : Nat → Int) (b_stepCosts : Nat → Int) (r_fixedValues : Nat → Int) (r_rests : Nat → Int) (r_length : Int) (r_begins : Nat → Int) (r_ends : Nat → Int) (r_entries : Nat → Int) (r_costs : Nat → Int) (s_length : Int) (s_breaks : Nat → Int) (s_fixed : Nat → Int) (v_values : Nat → Int) : Option (Nat × (Int × Int × Int)) :=
  gd (inI x8) <|
  if x8 = 2147483647 then
    vl (x7 + 1) fun x7_121 =>
    some (0, (x3, x4, x7_121))
  else
    gd (inI t0) <|
    if t0 = 0 then
      vl (x7 + 1) fun x7_121_v2 =>
      some (0, (x3, x4, x7_121_v2))
    else
      (m_X3_costFrom x8 x6 x7 b_wordKinds b_stepCosts r_rests r_length r_entries).bind fun r_107 =>
      gd (inI r_107) <|
      gd (inI x2) <|
      if r_107 = x2 then
        vl (x7 + 1) fun x7_121_v4 =>
        some (0, (x6, x8, x7_121_v4))
      else
        vl (x7 + 1) fun x7_121_v3 =>
        some (0, (x3, x4, x7_121_v3))
def m_X3_followPart_81 (x1 : Int) (x2 : Int) (x3 : Int) (x4 : Int) (x5 : Int) (x6 : Int) (x7 : Int) (x8 : Int) (b_wordKinds : Nat → Int) (b_stepCosts : Nat → Int) (r_fixedValues : Nat → Int) (r_rests : Nat → Int) (r_length : Int) (r_begins : Nat → Int) (r_ends : Nat → Int) (r_entries : Nat → Int) (r_costs : Nat → Int) (s_length : Int) (s_breaks : Nat → Int) (s_fixed : Nat → Int) (v_values : Nat → Int) : Option (Nat × (Int × Int × Int)) :=
  m_X3_followPart_86 x1 x2 x3 x4 x5 x6 x7 x8 1 b_wordKinds b_stepCosts r_fixedValues r_rests r_length r_begins r_ends r_entries r_costs s_length s_breaks s_fixed v_values
def m_X3_followPart_31 (x1 : Int) (x2 : Int) (x3 : Int) (x4 : Int) (x5 : Int) (x6 : Int) (x7 : Int) (b_wordKinds : Nat → Int) (b_stepCosts : Nat → Int) (r_fixedValues : Nat → Int) (r_rests : Nat → Int) (r_length : Int) (r_begins : Nat → Int) (r_ends : Nat → Int) (r_entries : Nat → Int) (r_costs : Nat → Int) (s_length : Int) (s_breaks : Nat → Int) (s_fixed : Nat → Int) (v_values : Nat → Int) : Option (Nat × (Int × Int × Int)) :=
  gd (inI x7) <|
  if 9 ≤ x7 then
    some (1, (x3, x4, x7))
  else
    (m_X4_partsAt x6 s_length s_breaks).bind fun r_44 =>
    gd (inI r_44) <|
    if r_44 = 0 then
      some (1, (x3, x4, x7))
    else
      (m_X3_valueOf x1 x6 x7 b_wordKinds r_fixedValues s_fixed v_values).bind fun r_56 =>
      gd (inI x3) <|
      if x3 = (-1) then
        m_X3_followPart_81 x1 x2 x3 x4 x5 x6 x7 r_56 b_wordKinds b_stepCosts r_fixedValues r_rests r_length r_begins r_ends r_entries r_costs s_length s_breaks s_fixed v_values
      else
        gd (inI (r_56 % 1024)) <|
        gd (inI (x4 % 1024)) <|
        if (x4 % 1024) ≤ (r_56 % 1024) then
          m_X3_followPart_86 x1 x2 x3 x4 x5 x6 x7 r_56 0 b_wordKinds b_stepCosts r_fixedValues r_rests r_length r_begins r_ends r_entries r_costs s_length s_breaks s_fixed v_values
        else
          m_X3_followPart_81 x1 x2 x3 x4 x5 x6 x7 r_56 b_wordKinds b_stepCosts r_fixedValues r_rests r_length r_begins r_ends r_entries r_costs s_length s_breaks s_fixed v_values
def m_X3_followPart_21 (x1 : Int) (x2 : Int) (x3 : Int) (x4 : Int) (x5 : Int) (x6 : Int) (b_wordKinds : Nat → Int) (b_stepCosts : Nat → Int) (r_fixedValues : Nat → Int) (r_rests : Nat → Int) (r_length : Int) (r_begins : Nat → Int) (r_ends : Nat → Int) (r_entries : Nat → Int) (r_costs : Nat → Int) (s_length : Int) (s_breaks : Nat → Int) (s_fixed : Nat → Int) (v_values : Nat → Int) : Option (Nat × (Int × Int × Int)) :=
  gd (inI x6) <|
  gd (inI x5) <|
  if x5 < x6 then
    some (1, (x3, x4, x6))
  else
    (zloop (fun a => m_X3_followPart_31 x1 x2 a.1 a.2.1 x5 x6 a.2.2 b_wordKinds b_stepCosts r_fixedValues r_rests r_length r_begins r_ends r_entries r_costs s_length s_breaks s_fixed v_values) FU (x3, x4, 0)).bind fun (t_31, x3_31, x4_31, x7_31) =>
    vl (x6 + 1) fun x6_127 =>
    some (0, (x3_31, x4_31, x6_127))
def m_X3_followPart (x1 : Int) (x2 : Int) (b_wordKinds : Nat → Int) (b_stepCosts : Nat → Int) (r_fixedValues : Nat → Int) (r_rests : Nat → Int) (r_length : Int) (r_begins : Nat → Int) (r_ends : Nat → Int) (r_entries : Nat → Int) (r_costs : Nat → Int) (s_length : Int) (s_breaks : Nat → Int) (s_fixed : Nat → Int) (v_values : Nat → Int) : Option (Int × Int × (Nat → Int) × (Nat → Int) × (Nat → Int) × (Nat → Int)) :=
  (m_X4_reachFrom x1 s_length s_breaks).bind fun r_11 =>
  vl (x1 + 1) fun x6_19 =>
  (zloop (fun a => m_X3_followPart_21 x1 x2 a.1 a.2.1 r_11 a.2.2 b_wordKinds b_stepCosts r_fixedValues r_rests r_length r_begins r_ends r_entries r_costs s_length s_breaks s_fixed v_values) FU ((-1), 2147483647, x6_19)).bind fun (t_21, x3_21, x4_21, x6_21) =>
  gd (inI x3_21) <|
  if x3_21 = (-1) then
    some (x3_21, r_length, r_begins, r_ends, r_entries, r_costs)
  else
    gd (0 ≤ r_length ∧ r_length < 36) <|
    vl (uz r_begins (Int.toNat r_length) x1) fun r_begins_147 =>
    gd (0 ≤ r_length ∧ r_length < 36) <|
    vl (uz r_ends (Int.toNat r_length) x3_21) fun r_ends_157 =>
    gd (0 ≤ r_length ∧ r_length < 36) <|
    vl (uz r_entries (Int.toNat r_length) (x4_21 % 1024)) fun r_entries_172 =>
    gd (inI x4_21) <|
    gd (0 ≤ r_length ∧ r_length < 36) <|
    vl (uz r_costs (Int.toNat r_length) (x4_21 / 1024)) fun r_costs_186 =>
    vl (r_length + 1) fun r_length_194 =>
    some (x3_21, r_length_194, r_begins_147, r_ends_157, r_entries_172, r_costs_186)
def m_X3_follow_7 (x1 : Int) (x2 : Int) (b_wordKinds : Nat → Int) (b_stepCosts : Nat → Int) (r_fixedValues : Nat → Int) (r_rests : Nat → Int) (r_total : Int) (r_length : Int) (r_begins : Nat → Int) (r_ends : Nat → Int) (r_entries : Nat → Int) (r_costs : Nat → Int) (s_length : Int) (s_breaks : Nat → Int) (s_fixed : Nat → Int) (v_values : Nat → Int) : Option (Nat × (Int × Int × Int × (Nat → Int) × (Nat → Int) × (Nat → Int) × (Nat → Int))) :=
  gd (inI x1) <|
  gd (inI s_length) <|
  if s_length ≤ x1 then
    some (1, (x1, x2, r_length, r_begins, r_ends, r_entries, r_costs))
  else
    gd (inI r_length) <|
    if 36 ≤ r_length then
      some (1, (x1, x2, r_length, r_begins, r_ends, r_entries, r_costs))
    else
      (m_X3_followPart x1 x2 b_wordKinds b_stepCosts r_fixedValues r_rests r_length r_begins r_ends r_entries r_costs s_length s_breaks s_fixed v_values).bind fun (r_30, r_length_30, r_begins_30, r_ends_30, r_entries_30, r_costs_30) =>
      gd (inI r_30) <|
      if r_30 = (-1) then
        some (2, (x1, x2, r_length_30, r_begins_30, r_ends_30, r_entries_30, r_costs_30))
      else
        gd (0 ≤ (r_length_30 - 1) ∧ (r_length_30 - 1) < 36) <|
        (m_X1_kindOf (r_entries_30 (Int.toNat (r_length_30 - 1))) b_wordKinds).bind fun r_65 =>
        gd (0 ≤ ((r_30 * 9) + r_65) ∧ ((r_30 * 9) + r_65) < 333) <|
        vl (r_rests (Int.toNat ((r_30 * 9) + r_65))) fun x2_70 =>
        some (0, (r_30, x2_70, r_length_30, r_begins_30, r_ends_30, r_entries_30, r_costs_30))
def m_X3_follow (b_wordKinds : Nat → Int) (b_stepCosts : Nat → Int) (r_fixedValues : Nat → Int) (r_rests : Nat → Int) (r_total : Int) (r_length : Int) (r_begins : Nat → Int) (r_ends : Nat → Int) (r_entries : Nat → Int) (r_costs : Nat → Int) (s_length : Int) (s_breaks : Nat → Int) (s_fixed : Nat → Int) (v_values : Nat → Int) : Option (Int × (Nat → Int) × (Nat → Int) × (Nat → Int) × (Nat → Int)) :=
  (zloop (fun a => m_X3_follow_7 a.1 a.2.1 b_wordKinds b_stepCosts r_fixedValues r_rests r_total a.2.2.1 a.2.2.2.1 a.2.2.2.2.1 a.2.2.2.2.2.1 a.2.2.2.2.2.2 s_length s_breaks s_fixed v_values) FU (0, r_total, r_length, r_begins, r_ends, r_entries, r_costs)).bind fun (t_7, x1_7, x2_7, r_length_7, r_begins_7, r_ends_7, r_entries_7, r_costs_7) =>
  if t_7 = 1 then
    some (r_length_7, r_begins_7, r_ends_7, r_entries_7, r_costs_7)
  else
    some (r_length_7, r_begins_7, r_ends_7, r_entries_7, r_costs_7)
def m_X3_renew_85 (x1 : Int) (b_spellingsOf : Nat → Int) (b_spellingRows : Nat → Int) (b_spellingLengths : Nat → Int) (b_spellingPrices : Nat → Int) (b_words : Int) (b_wordSounds : Nat → Int) (b_wordKinds : Nat → Int) (b_wordClasses : Nat → Int) (b_counts : Nat → Int) (b_endings : Int) (b_endingSounds : Nat → Int) (b_endingClasses : Nat → Int) (b_endingPrices : Nat → Int) (b_prices : Nat → Int) (b_stepCosts : Nat → Int) (r_fixedValues : Nat → Int) (r_heads : Nat → Int) (r_rests : Nat → Int) (r_known : Int) (r_total : Int) (r_length : Int) (r_begins : Nat → Int) (r_ends : Nat → Int) (r_entries : Nat → Int) (r_costs : Nat → Int) (s_length : Int) (s_letters : Nat → Int) (s_breaks : Nat → Int) (s_fixed : Nat → Int) (v_values : Nat → Int) (v_lettersRead : Nat → Int) (v_columns : Int) (p_now : Nat → Int) (p_nowA : Nat) (p_next : Nat → Int) (p_nextA : Nat) (p_low : Int) (p_high : Int) (p_seeds : Nat → Int) (p_seedLows : Nat → Int) : Option (Nat × (Int × (Nat → Int) × (Nat → Int))) :=
  gd (inI x1) <|
  if x1 < 0 then
    some (1, (x1, r_heads, r_rests))
  else
    (m_X3_fillHeads x1 b_wordKinds r_fixedValues r_heads r_rests s_length s_breaks s_fixed v_values).bind fun r_heads_91 =>
    (m_X3_fillRests x1 b_stepCosts r_heads_91 r_rests).bind fun r_rests_96 =>
    vl (x1 + (-1)) fun x1_99 =>
    some (0, (x1_99, r_heads_91, r_rests_96))
def m_X3_renew (b_spellingsOf : Nat → Int) (b_spellingRows : Nat → Int) (b_spellingLengths : Nat → Int) (b_spellingPrices : Nat → Int) (b_words : Int) (b_wordSounds : Nat → Int) (b_wordKinds : Nat → Int) (b_wordClasses : Nat → Int) (b_counts : Nat → Int) (b_endings : Int) (b_endingSounds : Nat → Int) (b_endingClasses : Nat → Int) (b_endingPrices : Nat → Int) (b_prices : Nat → Int) (b_stepCosts : Nat → Int) (r_fixedValues : Nat → Int) (r_heads : Nat → Int) (r_rests : Nat → Int) (r_known : Int) (r_total : Int) (r_length : Int) (r_begins : Nat → Int) (r_ends : Nat → Int) (r_entries : Nat → Int) (r_costs : Nat → Int) (s_length : Int) (s_letters : Nat → Int) (s_breaks : Nat → Int) (s_fixed : Nat → Int) (v_values : Nat → Int) (v_lettersRead : Nat → Int) (v_columns : Int) (p_now : Nat → Int) (p_nowA : Nat) (p_next : Nat → Int) (p_nextA : Nat) (p_low : Int) (p_high : Int) (p_seeds : Nat → Int) (p_seedLows : Nat → Int) : Option ((Nat → Int) × (Nat → Int) × (Nat → Int) × Int × Int × Int × (Nat → Int) × (Nat → Int) × (Nat → Int) × (Nat → Int) × (Nat → Int) × (Nat → Int) × Int × (Nat → Int) × Nat × (Nat → Int) × Nat × Int × Int × (Nat → Int) × (Nat → Int)) :=
  gd (inI r_known) <|
  if r_known = 0 then
    gd (inI s_length) <|
    if s_length = 0 then
      some (r_fixedValues, r_heads, r_rests, 1, 0, 0, r_begins, r_ends, r_entries, r_costs, v_values, v_lettersRead, v_columns, p_now, p_nowA, p_next, p_nextA, p_low, p_high, p_seeds, p_seedLows)
    else
      (m_X5_renew b_spellingsOf b_spellingRows b_spellingLengths b_spellingPrices b_words b_wordSounds b_wordKinds b_wordClasses b_counts b_endings b_endingSounds b_endingClasses b_endingPrices b_prices s_length s_letters v_values v_lettersRead v_columns p_now p_nowA p_next p_nextA p_low p_high p_seeds p_seedLows).bind fun (v_values_38, v_lettersRead_38, v_columns_38, p_now_38, p_nowA_38, p_next_38, p_nextA_38, p_low_38, p_high_38, p_seeds_38, p_seedLows_38) =>
      (m_X3_valueFixedParts b_spellingsOf b_spellingRows b_spellingLengths b_spellingPrices b_wordSounds b_counts b_endingSounds b_endingPrices b_prices r_fixedValues s_length s_letters s_fixed p_now_38 p_nowA_38 p_next_38 p_nextA_38 p_low_38 p_high_38).bind fun (r_fixedValues_42, p_now_42, p_nowA_42, p_next_42, p_nextA_42, p_low_42, p_high_42) =>
      (m_X8_fillRange (s_length * 9) ((s_length + 1) * 9) 0 r_rests 333).bind fun r_rests_72 =>
      vl (s_length - 1) fun x1_84 =>
      (zloop (fun a => m_X3_renew_85 a.1 b_spellingsOf b_spellingRows b_spellingLengths b_spellingPrices b_words b_wordSounds b_wordKinds b_wordClasses b_counts b_endings b_endingSounds b_endingClasses b_endingPrices b_prices b_stepCosts r_fixedValues_42 a.2.1 a.2.2 1 0 0 r_begins r_ends r_entries r_costs s_length s_letters s_breaks s_fixed v_values_38 v_lettersRead_38 v_columns_38 p_now_42 p_nowA_42 p_next_42 p_nextA_42 p_low_42 p_high_42 p_seeds_38 p_seedLows_38) FU (x1_84, r_heads, r_rests_72)).bind fun (t_85, x1_85, r_heads_85, r_rests_85) =>
      (m_X3_leastHead r_heads_85).bind fun r_107 =>
      gd (inI r_107) <|
      if 268435456 ≤ r_107 then
        some (r_fixedValues_42, r_heads_85, r_rests_85, 1, r_107, 0, r_begins, r_ends, r_entries, r_costs, v_values_38, v_lettersRead_38, v_columns_38, p_now_42, p_nowA_42, p_next_42, p_nextA_42, p_low_42, p_high_42, p_seeds_38, p_seedLows_38)
      else
        (m_X3_follow b_wordKinds b_stepCosts r_fixedValues_42 r_rests_85 r_107 0 r_begins r_ends r_entries r_costs s_length s_breaks s_fixed v_values_38).bind fun (r_length_123, r_begins_123, r_ends_123, r_entries_123, r_costs_123) =>
        some (r_fixedValues_42, r_heads_85, r_rests_85, 1, r_107, r_length_123, r_begins_123, r_ends_123, r_entries_123, r_costs_123, v_values_38, v_lettersRead_38, v_columns_38, p_now_42, p_nowA_42, p_next_42, p_nextA_42, p_low_42, p_high_42, p_seeds_38, p_seedLows_38)
  else
    some (r_fixedValues, r_heads, r_rests, r_known, r_total, r_length, r_begins, r_ends, r_entries, r_costs, v_values, v_lettersRead, v_columns, p_now, p_nowA, p_next, p_nextA, p_low, p_high, p_seeds, p_seedLows)
def m_X2_forget (o_leadsKnown : Int) (o_listedPart : Int) : Option (Int × Int) :=
  some (0, (-1))
def m_X2_fillLeads_22 (x1 : Int) (x2 : Int) (x3 : Int) (x4 : Int) (b_stepCosts : Nat → Int) (o_tails : Nat → Int) (o_leads : Nat → Int) : Option (Nat × (Int × Int)) :=
  gd (inI x4) <|
  if 9 ≤ x4 then
    some (1, (x3, x4))
  else
    gd (0 ≤ ((x1 * 9) + x4) ∧ ((x1 * 9) + x4) < 333) <|
    vl (o_tails (Int.toNat ((x1 * 9) + x4))) fun x5_41 =>
    gd (inI x5_41) <|
    if 268435456 ≤ x5_41 then
      vl (x4 + 1) fun x4_73 =>
      some (0, (x3, x4_73))
    else
      gd (0 ≤ ((x4 * 9) + x2) ∧ ((x4 * 9) + x2) < 81) <|
      gd (inI x3) <|
      gd (inI (x5_41 + (b_stepCosts (Int.toNat ((x4 * 9) + x2))))) <|
      vl (min x3 (x5_41 + (b_stepCosts (Int.toNat ((x4 * 9) + x2))))) fun x3_72 =>
      vl (x4 + 1) fun x4_73_v2 =>
      some (0, (x3_72, x4_73_v2))
def m_X2_fillLeads_18 (x1 : Int) (x2 : Int) (t0 : Int) (b_stepCosts : Nat → Int) (o_tails : Nat → Int) (o_leads : Nat → Int) : Option (Nat × (Int × (Nat → Int))) :=
  (zloop (fun a => m_X2_fillLeads_22 x1 x2 a.1 a.2 b_stepCosts o_tails o_leads) FU (t0, 0)).bind fun (t_22, x3_22, x4_22) =>
  gd (0 ≤ ((x1 * 9) + x2) ∧ ((x1 * 9) + x2) < 324) <|
  vl (uz o_leads (Int.toNat ((x1 * 9) + x2)) x3_22) fun o_leads_90 =>
  vl (x2 + 1) fun x2_91 =>
  some (0, (x2_91, o_leads_90))
def m_X2_fillLeads_2 (x1 : Int) (x2 : Int) (b_stepCosts : Nat → Int) (o_tails : Nat → Int) (o_leads : Nat → Int) : Option (Nat × (Int × (Nat → Int))) :=
  gd (inI x2) <|
  if 9 ≤ x2 then
    some (1, (x2, o_leads))
  else
    gd (inI x1) <|
    if x1 = 0 then
      m_X2_fillLeads_18 x1 x2 0 b_stepCosts o_tails o_leads
    else
      m_X2_fillLeads_18 x1 x2 268435456 b_stepCosts o_tails o_leads
def m_X2_fillLeads (x1 : Int) (b_stepCosts : Nat → Int) (o_tails : Nat → Int) (o_leads : Nat → Int) : Option ((Nat → Int)) :=
  (zloop (fun a => m_X2_fillLeads_2 x1 a.1 b_stepCosts o_tails a.2) FU (0, o_leads)).bind fun (t_2, x2_2, o_leads_2) =>
  some o_leads_2
def m_X2_goOn_21 (x1 : Int) (x2 : Int) (x3 : Int) (x4 : Int) (b_wordKinds : Nat → Int) (o_tails : Nat → Int) (o_leads : Nat → Int) (r_fixedValues : Nat → Int) (s_length : Int) (s_breaks : Nat → Int) (s_fixed : Nat → Int) (v_values : Nat → Int) : Option (Nat × (Int × (Nat → Int))) :=
  gd (inI x4) <|
  if 9 ≤ x4 then
    some (1, (x4, o_tails))
  else
    (m_X4_partsAt x3 s_length s_breaks).bind fun r_33 =>
    gd (inI r_33) <|
    if r_33 = 0 then
      some (1, (x4, o_tails))
    else
      (m_X3_valueOf x1 x3 x4 b_wordKinds r_fixedValues s_fixed v_values).bind fun r_47 =>
      gd (0 ≤ ((x1 * 9) + x4) ∧ ((x1 * 9) + x4) < 324) <|
      vl (o_leads (Int.toNat ((x1 * 9) + x4))) fun x6_64 =>
      gd (inI r_47) <|
      if r_47 = 2147483647 then
        vl (x4 + 1) fun x4_114 =>
        some (0, (x4_114, o_tails))
      else
        gd (inI x6_64) <|
        if 268435456 ≤ x6_64 then
          vl (x4 + 1) fun x4_114_v2 =>
          some (0, (x4_114_v2, o_tails))
        else
          vl ((x3 * 9) + x4) fun x7_87 =>
          gd (0 ≤ x7_87 ∧ x7_87 < 333) <|
          gd (inI (o_tails (Int.toNat x7_87))) <|
          gd (inI (x6_64 + (r_47 / 1024))) <|
          gd (0 ≤ x7_87 ∧ x7_87 < 333) <|
          vl (uz o_tails (Int.toNat x7_87) (min (o_tails (Int.toNat x7_87)) (x6_64 + (r_47 / 1024)))) fun o_tails_113 =>
          vl (x4 + 1) fun x4_114_v3 =>
          some (0, (x4_114_v3, o_tails_113))
def m_X2_goOn_13 (x1 : Int) (x2 : Int) (x3 : Int) (b_wordKinds : Nat → Int) (o_tails : Nat → Int) (o_leads : Nat → Int) (r_fixedValues : Nat → Int) (s_length : Int) (s_breaks : Nat → Int) (s_fixed : Nat → Int) (v_values : Nat → Int) : Option (Nat × (Int × (Nat → Int))) :=
  gd (inI x3) <|
  gd (inI x2) <|
  if x2 < x3 then
    some (1, (x3, o_tails))
  else
    (zloop (fun a => m_X2_goOn_21 x1 x2 x3 a.1 b_wordKinds a.2 o_leads r_fixedValues s_length s_breaks s_fixed v_values) FU (0, o_tails)).bind fun (t_21, x4_21, o_tails_21) =>
    vl (x3 + 1) fun x3_120 =>
    some (0, (x3_120, o_tails_21))
def m_X2_goOn (x1 : Int) (b_wordKinds : Nat → Int) (o_tails : Nat → Int) (o_leads : Nat → Int) (r_fixedValues : Nat → Int) (s_length : Int) (s_breaks : Nat → Int) (s_fixed : Nat → Int) (v_values : Nat → Int) : Option ((Nat → Int)) :=
  (m_X4_reachFrom x1 s_length s_breaks).bind fun r_5 =>
  vl (x1 + 1) fun x3_12 =>
  (zloop (fun a => m_X2_goOn_13 x1 r_5 a.1 b_wordKinds a.2 o_leads r_fixedValues s_length s_breaks s_fixed v_values) FU (x3_12, o_tails)).bind fun (t_13, x3_13, o_tails_13) =>
  some o_tails_13
def m_X2_fillAllLeads_24 (x1 : Int) (b_wordKinds : Nat → Int) (b_stepCosts : Nat → Int) (o_tails : Nat → Int) (o_leads : Nat → Int) (o_leadsKnown : Int) (r_fixedValues : Nat → Int) (s_length : Int) (s_breaks : Nat → Int) (s_fixed : Nat → Int) (v_values : Nat → Int) : Option (Nat × (Int × (Nat → Int) × (Nat → Int))) :=
  gd (inI x1) <|
  gd (inI s_length) <|
  if s_length ≤ x1 then
    some (1, (x1, o_tails, o_leads))
  else
    (m_X2_fillLeads x1 b_stepCosts o_tails o_leads).bind fun o_leads_37 =>
    (m_X4_partsAt x1 s_length s_breaks).bind fun r_45 =>
    gd (inI r_45) <|
    if r_45 = 0 then
      vl (x1 + 1) fun x1_56 =>
      some (0, (x1_56, o_tails, o_leads_37))
    else
      (m_X2_goOn x1 b_wordKinds o_tails o_leads_37 r_fixedValues s_length s_breaks s_fixed v_values).bind fun o_tails_53 =>
      vl (x1 + 1) fun x1_56_v2 =>
      some (0, (x1_56_v2, o_tails_53, o_leads_37))
def m_X2_fillAllLeads (b_wordKinds : Nat → Int) (b_stepCosts : Nat → Int) (o_tails : Nat → Int) (o_leads : Nat → Int) (o_leadsKnown : Int) (r_fixedValues : Nat → Int) (s_length : Int) (s_breaks : Nat → Int) (s_fixed : Nat → Int) (v_values : Nat → Int) : Option ((Nat → Int) × (Nat → Int) × Int) :=
  gd (inI o_leadsKnown) <|
  if o_leadsKnown = 0 then
    (m_J7_fill_53178 268435456 o_tails 333).bind fun o_tails_19 =>
    (zloop (fun a => m_X2_fillAllLeads_24 a.1 b_wordKinds b_stepCosts a.2.1 a.2.2 1 r_fixedValues s_length s_breaks s_fixed v_values) FU (0, o_tails_19, o_leads)).bind fun (t_24, x1_24, o_tails_24, o_leads_24) =>
    some (o_tails_24, o_leads_24, 1)
  else
    some (o_tails, o_leads, o_leadsKnown)
def m_X2_offer_78 (x1 : Int) (x8 : Int) (x9 : Int) (b_wordKinds : Nat → Int) (o_leads : Nat → Int) (o_length : Int) (o_entries : Nat → Int) (o_costs : Nat → Int) (r_rests : Nat → Int) : Option (Nat × (Int)) :=
  gd (inI x9) <|
  if x9 ≤ 0 then
    some (1, x9)
  else
    gd (0 ≤ (x9 - 1) ∧ (x9 - 1) < 12) <|
    gd (inI (o_costs (Int.toNat (x9 - 1)))) <|
    gd (inI x8) <|
    if (o_costs (Int.toNat (x9 - 1))) ≤ x8 then
      some (1, x9)
    else
      vl (x9 + (-1)) fun x9_97 =>
      some (0, x9_97)
def m_X2_offer_134 (x1 : Int) (x8 : Int) (x9 : Int) (x10 : Int) (b_wordKinds : Nat → Int) (o_leads : Nat → Int) (o_length : Int) (o_entries : Nat → Int) (o_costs : Nat → Int) (r_rests : Nat → Int) : Option (Nat × (Int × (Nat → Int) × (Nat → Int))) :=
  gd (inI x10) <|
  gd (inI x9) <|
  if x10 ≤ x9 then
    some (1, (x10, o_entries, o_costs))
  else
    gd (0 ≤ (x10 - 1) ∧ (x10 - 1) < 12) <|
    gd (0 ≤ x10 ∧ x10 < 12) <|
    vl (uz o_entries (Int.toNat x10) (o_entries (Int.toNat (x10 - 1)))) fun o_entries_156 =>
    gd (0 ≤ (x10 - 1) ∧ (x10 - 1) < 12) <|
    gd (0 ≤ x10 ∧ x10 < 12) <|
    vl (uz o_costs (Int.toNat x10) (o_costs (Int.toNat (x10 - 1)))) fun o_costs_172 =>
    vl (x10 + (-1)) fun x10_173 =>
    some (0, (x10_173, o_entries_156, o_costs_172))
def m_X2_offer_103 (x1 : Int) (x8 : Int) (x9 : Int) (b_wordKinds : Nat → Int) (o_leads : Nat → Int) (o_length : Int) (o_entries : Nat → Int) (o_costs : Nat → Int) (r_rests : Nat → Int) : Option (Int × (Nat → Int) × (Nat → Int)) :=
  gd (inI x9) <|
  if x9 < 12 then
    gd (inI (o_length + 1)) <|
    vl (min (o_length + 1) 12) fun o_length_123 =>
    vl (o_length_123 - 1) fun x10_132 =>
    (zloop (fun a => m_X2_offer_134 x1 x8 x9 a.1 b_wordKinds o_leads o_length_123 a.2.1 a.2.2 r_rests) FU (x10_132, o_entries, o_costs)).bind fun (t_134, x10_134, o_entries_134, o_costs_134) =>
    gd (0 ≤ x9 ∧ x9 < 12) <|
    vl (uz o_entries_134 (Int.toNat x9) x1) fun o_entries_186 =>
    gd (0 ≤ x9 ∧ x9 < 12) <|
    vl (uz o_costs_134 (Int.toNat x9) x8) fun o_costs_195 =>
    some (o_length_123, o_entries_186, o_costs_195)
  else
    some (o_length, o_entries, o_costs)
def m_X2_offer (x1 : Int) (x2 : Int) (x3 : Int) (x4 : Int) (b_wordKinds : Nat → Int) (o_leads : Nat → Int) (o_length : Int) (o_entries : Nat → Int) (o_costs : Nat → Int) (r_rests : Nat → Int) : Option (Int × (Nat → Int) × (Nat → Int)) :=
  (m_X1_kindOf x1 b_wordKinds).bind fun r_5 =>
  gd (0 ≤ ((x3 * 9) + r_5) ∧ ((x3 * 9) + r_5) < 324) <|
  vl (o_leads (Int.toNat ((x3 * 9) + r_5))) fun x6_22 =>
  gd (0 ≤ ((x4 * 9) + r_5) ∧ ((x4 * 9) + r_5) < 333) <|
  vl (r_rests (Int.toNat ((x4 * 9) + r_5))) fun x7_40 =>
  gd (inI x2) <|
  if x2 = 268435456 then
    some (o_length, o_entries, o_costs)
  else
    gd (inI x6_22) <|
    if 268435456 ≤ x6_22 then
      some (o_length, o_entries, o_costs)
    else
      gd (inI x7_40) <|
      if x7_40 < 268435456 then
        vl ((x6_22 + x2) + x7_40) fun x8_70 =>
        (zloop (fun a => m_X2_offer_78 x1 x8_70 a b_wordKinds o_leads o_length o_entries o_costs r_rests) FU o_length).bind fun (t_78, x9_78) =>
        m_X2_offer_103 x1 x8_70 x9_78 b_wordKinds o_leads o_length o_entries o_costs r_rests
      else
        some (o_length, o_entries, o_costs)
end
section
def m_X2_offerWords_16 (x1 : Int) (x2 : Int) (x3 : Int) (x4 : Int) (b_spellingsOf : Nat → Int) (b_spellingRows : Nat → Int) (b_spellingLengths : Nat → Int) (b_spellingPrices : Nat → Int) (b_words : Int) (b_wordSounds : Nat → Int) (b_wordKinds : Nat → Int) (b_wordClasses : Nat → Int) (b_counts : Nat → Int) (b_endings : Int) (b_endingSounds : Nat → Int) (b_endingClasses : Nat → Int) (b_endingPrices : Nat → Int) (b_prices : Nat → Int) (o_leads : Nat → Int) (o_length : Int) (o_entries : Nat → Int) (o_costs : Nat → Int) (r_rests : Nat → Int) (s_letters : Nat → Int) (p_now : Nat → Int) (p_nowA : Nat) (p_next : Nat → Int) (p_nextA : Nat) (p_low : Int) (p_high : Int) : Option (Nat × (Int × Int × (Nat → Int) × (Nat → Int) × (Nat → Int) × Nat × (Nat → Int) × Nat × Int × Int)) :=
  gd (inI x4) <|
  gd (inI b_endings) <|
  if b_endings ≤ x4 then
    some (1, (x4, o_length, o_entries, o_costs, p_now, p_nowA, p_next, p_nextA, p_low, p_high))
  else
    (m_X1_goesTogether x3 x4 b_wordClasses b_endings b_endingClasses).bind fun r_35 =>
    gd (inI r_35) <|
    if r_35 = 0 then
      vl (x4 + 1) fun x4_71 =>
      some (0, (x4_71, o_length, o_entries, o_costs, p_now, p_nowA, p_next, p_nextA, p_low, p_high))
    else
      vl (((x3 * 9) + x4) + 1) fun x5_50 =>
      (m_X6_costOf x5_50 x1 x2 b_spellingsOf b_spellingRows b_spellingLengths b_spellingPrices b_wordSounds b_counts b_endingSounds b_endingPrices b_prices s_letters p_now p_nowA p_next p_nextA p_low p_high).bind fun (r_63, p_now_63, p_nowA_63, p_next_63, p_nextA_63, p_low_63, p_high_63) =>
      (m_X2_offer x5_50 r_63 x1 x2 b_wordKinds o_leads o_length o_entries o_costs r_rests).bind fun (o_length_68, o_entries_68, o_costs_68) =>
      vl (x4 + 1) fun x4_71_v2 =>
      some (0, (x4_71_v2, o_length_68, o_entries_68, o_costs_68, p_now_63, p_nowA_63, p_next_63, p_nextA_63, p_low_63, p_high_63))
def m_X2_offerWords_2 (x1 : Int) (x2 : Int) (x3 : Int) (b_spellingsOf : Nat → Int) (b_spellingRows : Nat → Int) (b_spellingLengths : Nat → Int) (b_spellingPrices : Nat → Int) (b_words : Int) (b_wordSounds : Nat → Int) (b_wordKinds : Nat → Int) (b_wordClasses : Nat → Int) (b_counts : Nat → Int) (b_endings : Int) (b_endingSounds : Nat → Int) (b_endingClasses : Nat → Int) (b_endingPrices : Nat → Int) (b_prices : Nat → Int) (o_leads : Nat → Int) (o_length : Int) (o_entries : Nat → Int) (o_costs : Nat → Int) (r_rests : Nat → Int) (s_letters : Nat → Int) (p_now : Nat → Int) (p_nowA : Nat) (p_next : Nat → Int) (p_nextA : Nat) (p_low : Int) (p_high : Int) : Option (Nat × (Int × Int × (Nat → Int) × (Nat → Int) × (Nat → Int) × Nat × (Nat → Int) × Nat × Int × Int)) :=
  gd (inI x3) <|
  gd (inI b_words) <|
  if b_words ≤ x3 then
    some (1, (x3, o_length, o_entries, o_costs, p_now, p_nowA, p_next, p_nextA, p_low, p_high))
  else
    (zloop (fun a => m_X2_offerWords_16 x1 x2 x3 a.1 b_spellingsOf b_spellingRows b_spellingLengths b_spellingPrices b_words b_wordSounds b_wordKinds b_wordClasses b_counts b_endings b_endingSounds b_endingClasses b_endingPrices b_prices o_leads a.2.1 a.2.2.1 a.2.2.2.1 r_rests s_letters a.2.2.2.2.1 a.2.2.2.2.2.1 a.2.2.2.2.2.2.1 a.2.2.2.2.2.2.2.1 a.2.2.2.2.2.2.2.2.1 a.2.2.2.2.2.2.2.2.2) FU ((-1), o_length, o_entries, o_costs, p_now, p_nowA, p_next, p_nextA, p_low, p_high)).bind fun (t_16, x4_16, o_length_16, o_entries_16, o_costs_16, p_now_16, p_nowA_16, p_next_16, p_nextA_16, p_low_16, p_high_16) =>
    vl (x3 + 1) fun x3_77 =>
    some (0, (x3_77, o_length_16, o_entries_16, o_costs_16, p_now_16, p_nowA_16, p_next_16, p_nextA_16, p_low_16, p_high_16))
def m_X2_offerWords (x1 : Int) (x2 : Int) (b_spellingsOf : Nat → Int) (b_spellingRows : Nat → Int) (b_spellingLengths : Nat → Int) (b_spellingPrices : Nat → Int) (b_words : Int) (b_wordSounds : Nat → Int) (b_wordKinds : Nat → Int) (b_wordClasses : Nat → Int) (b_counts : Nat → Int) (b_endings : Int) (b_endingSounds : Nat → Int) (b_endingClasses : Nat → Int) (b_endingPrices : Nat → Int) (b_prices : Nat → Int) (o_leads : Nat → Int) (o_length : Int) (o_entries : Nat → Int) (o_costs : Nat → Int) (r_rests : Nat → Int) (s_letters : Nat → Int) (p_now : Nat → Int) (p_nowA : Nat) (p_next : Nat → Int) (p_nextA : Nat) (p_low : Int) (p_high : Int) : Option (Int × (Nat → Int) × (Nat → Int) × (Nat → Int) × Nat × (Nat → Int) × Nat × Int × Int) :=
  (zloop (fun a => m_X2_offerWords_2 x1 x2 a.1 b_spellingsOf b_spellingRows b_spellingLengths b_spellingPrices b_words b_wordSounds b_wordKinds b_wordClasses b_counts b_endings b_endingSounds b_endingClasses b_endingPrices b_prices o_leads a.2.1 a.2.2.1 a.2.2.2.1 r_rests s_letters a.2.2.2.2.1 a.2.2.2.2.2.1 a.2.2.2.2.2.2.1 a.2.2.2.2.2.2.2.1 a.2.2.2.2.2.2.2.2.1 a.2.2.2.2.2.2.2.2.2) FU (0, o_length, o_entries, o_costs, p_now, p_nowA, p_next, p_nextA, p_low, p_high)).bind fun (t_2, x3_2, o_length_2, o_entries_2, o_costs_2, p_now_2, p_nowA_2, p_next_2, p_nextA_2, p_low_2, p_high_2) =>
  some (o_length_2, o_entries_2, o_costs_2, p_now_2, p_nowA_2, p_next_2, p_nextA_2, p_low_2, p_high_2)
def m_X2_offerGuess (x1 : Int) (x2 : Int) (b_spellingsOf : Nat → Int) (b_spellingRows : Nat → Int) (b_spellingLengths : Nat → Int) (b_spellingPrices : Nat → Int) (b_wordSounds : Nat → Int) (b_wordKinds : Nat → Int) (b_counts : Nat → Int) (b_endingSounds : Nat → Int) (b_endingPrices : Nat → Int) (b_prices : Nat → Int) (o_leads : Nat → Int) (o_length : Int) (o_entries : Nat → Int) (o_costs : Nat → Int) (r_rests : Nat → Int) (s_letters : Nat → Int) (p_now : Nat → Int) (p_nowA : Nat) (p_next : Nat → Int) (p_nextA : Nat) (p_low : Int) (p_high : Int) : Option (Int × (Nat → Int) × (Nat → Int) × (Nat → Int) × Nat × (Nat → Int) × Nat × Int × Int) :=
  (m_X6_costOf 540 x1 x2 b_spellingsOf b_spellingRows b_spellingLengths b_spellingPrices b_wordSounds b_counts b_endingSounds b_endingPrices b_prices s_letters p_now p_nowA p_next p_nextA p_low p_high).bind fun (r_13, p_now_13, p_nowA_13, p_next_13, p_nextA_13, p_low_13, p_high_13) =>
  (m_X2_offer 540 r_13 x1 x2 b_wordKinds o_leads o_length o_entries o_costs r_rests).bind fun (o_length_18, o_entries_18, o_costs_18) =>
  some (o_length_18, o_entries_18, o_costs_18, p_now_13, p_nowA_13, p_next_13, p_nextA_13, p_low_13, p_high_13)
def m_X2_list (x1 : Int) (b_spellingsOf : Nat → Int) (b_spellingRows : Nat → Int) (b_spellingLengths : Nat → Int) (b_spellingPrices : Nat → Int) (b_words : Int) (b_wordSounds : Nat → Int) (b_wordKinds : Nat → Int) (b_wordClasses : Nat → Int) (b_counts : Nat → Int) (b_endings : Int) (b_endingSounds : Nat → Int) (b_endingClasses : Nat → Int) (b_endingPrices : Nat → Int) (b_prices : Nat → Int) (b_stepCosts : Nat → Int) (o_tails : Nat → Int) (o_leads : Nat → Int) (o_leadsKnown : Int) (o_listedPart : Int) (o_length : Int) (o_entries : Nat → Int) (o_costs : Nat → Int) (r_fixedValues : Nat → Int) (r_rests : Nat → Int) (r_length : Int) (r_begins : Nat → Int) (r_ends : Nat → Int) (s_length : Int) (s_letters : Nat → Int) (s_breaks : Nat → Int) (s_fixed : Nat → Int) (v_values : Nat → Int) (p_now : Nat → Int) (p_nowA : Nat) (p_next : Nat → Int) (p_nextA : Nat) (p_low : Int) (p_high : Int) : Option (Int × (Nat → Int) × (Nat → Int) × Int × Int × Int × (Nat → Int) × (Nat → Int) × (Nat → Int) × Nat × (Nat → Int) × Nat × Int × Int) :=
  gd (inI x1) <|
  if x1 < 0 then
    some (0, o_tails, o_leads, o_leadsKnown, o_listedPart, o_length, o_entries, o_costs, p_now, p_nowA, p_next, p_nextA, p_low, p_high)
  else
    gd (inI r_length) <|
    if x1 < r_length then
      gd (inI o_listedPart) <|
      if x1 = o_listedPart then
        some (1, o_tails, o_leads, o_leadsKnown, o_listedPart, o_length, o_entries, o_costs, p_now, p_nowA, p_next, p_nextA, p_low, p_high)
      else
        (m_X2_fillAllLeads b_wordKinds b_stepCosts o_tails o_leads o_leadsKnown r_fixedValues s_length s_breaks s_fixed v_values).bind fun (o_tails_26, o_leads_26, o_leadsKnown_26) =>
        gd (0 ≤ x1 ∧ x1 < 36) <|
        gd (0 ≤ x1 ∧ x1 < 36) <|
        (m_X2_offerWords (r_begins (Int.toNat x1)) (r_ends (Int.toNat x1)) b_spellingsOf b_spellingRows b_spellingLengths b_spellingPrices b_words b_wordSounds b_wordKinds b_wordClasses b_counts b_endings b_endingSounds b_endingClasses b_endingPrices b_prices o_leads_26 0 o_entries o_costs r_rests s_letters p_now p_nowA p_next p_nextA p_low p_high).bind fun (o_length_53, o_entries_53, o_costs_53, p_now_53, p_nowA_53, p_next_53, p_nextA_53, p_low_53, p_high_53) =>
        gd (0 ≤ x1 ∧ x1 < 36) <|
        gd (0 ≤ x1 ∧ x1 < 36) <|
        (m_X2_offerGuess (r_begins (Int.toNat x1)) (r_ends (Int.toNat x1)) b_spellingsOf b_spellingRows b_spellingLengths b_spellingPrices b_wordSounds b_wordKinds b_counts b_endingSounds b_endingPrices b_prices o_leads_26 o_length_53 o_entries_53 o_costs_53 r_rests s_letters p_now_53 p_nowA_53 p_next_53 p_nextA_53 p_low_53 p_high_53).bind fun (o_length_75, o_entries_75, o_costs_75, p_now_75, p_nowA_75, p_next_75, p_nextA_75, p_low_75, p_high_75) =>
        some (1, o_tails_26, o_leads_26, o_leadsKnown_26, x1, o_length_75, o_entries_75, o_costs_75, p_now_75, p_nowA_75, p_next_75, p_nextA_75, p_low_75, p_high_75)
    else
      some (0, o_tails, o_leads, o_leadsKnown, o_listedPart, o_length, o_entries, o_costs, p_now, p_nowA, p_next, p_nextA, p_low, p_high)
def m_X8_cost (b_spellingsOf : Nat → Int) (b_spellingRows : Nat → Int) (b_spellingLengths : Nat → Int) (b_spellingPrices : Nat → Int) (b_words : Int) (b_wordSounds : Nat → Int) (b_wordKinds : Nat → Int) (b_wordClasses : Nat → Int) (b_counts : Nat → Int) (b_endings : Int) (b_endingSounds : Nat → Int) (b_endingClasses : Nat → Int) (b_endingPrices : Nat → Int) (b_prices : Nat → Int) (b_stepCosts : Nat → Int) (r_fixedValues : Nat → Int) (r_heads : Nat → Int) (r_rests : Nat → Int) (r_known : Int) (r_total : Int) (r_length : Int) (r_begins : Nat → Int) (r_ends : Nat → Int) (r_entries : Nat → Int) (r_costs : Nat → Int) (s_length : Int) (s_letters : Nat → Int) (s_breaks : Nat → Int) (s_fixed : Nat → Int) (v_values : Nat → Int) (v_lettersRead : Nat → Int) (v_columns : Int) (p_now : Nat → Int) (p_nowA : Nat) (p_next : Nat → Int) (p_nextA : Nat) (p_low : Int) (p_high : Int) (p_seeds : Nat → Int) (p_seedLows : Nat → Int) : Option (Int × (Nat → Int) × (Nat → Int) × (Nat → Int) × Int × Int × Int × (Nat → Int) × (Nat → Int) × (Nat → Int) × (Nat → Int) × (Nat → Int) × (Nat → Int) × Int × (Nat → Int) × Nat × (Nat → Int) × Nat × Int × Int × (Nat → Int) × (Nat → Int)) :=
  (m_X3_renew b_spellingsOf b_spellingRows b_spellingLengths b_spellingPrices b_words b_wordSounds b_wordKinds b_wordClasses b_counts b_endings b_endingSounds b_endingClasses b_endingPrices b_prices b_stepCosts r_fixedValues r_heads r_rests r_known r_total r_length r_begins r_ends r_entries r_costs s_length s_letters s_breaks s_fixed v_values v_lettersRead v_columns p_now p_nowA p_next p_nextA p_low p_high p_seeds p_seedLows).bind fun (r_fixedValues_4, r_heads_4, r_rests_4, r_known_4, r_total_4, r_length_4, r_begins_4, r_ends_4, r_entries_4, r_costs_4, v_values_4, v_lettersRead_4, v_columns_4, p_now_4, p_nowA_4, p_next_4, p_nextA_4, p_low_4, p_high_4, p_seeds_4, p_seedLows_4) =>
  gd (inI r_total_4) <|
  if r_total_4 < 268435456 then
    some (r_total_4, r_fixedValues_4, r_heads_4, r_rests_4, r_known_4, r_total_4, r_length_4, r_begins_4, r_ends_4, r_entries_4, r_costs_4, v_values_4, v_lettersRead_4, v_columns_4, p_now_4, p_nowA_4, p_next_4, p_nextA_4, p_low_4, p_high_4, p_seeds_4, p_seedLows_4)
  else
    some ((-1000000), r_fixedValues_4, r_heads_4, r_rests_4, r_known_4, r_total_4, r_length_4, r_begins_4, r_ends_4, r_entries_4, r_costs_4, v_values_4, v_lettersRead_4, v_columns_4, p_now_4, p_nowA_4, p_next_4, p_nextA_4, p_low_4, p_high_4, p_seeds_4, p_seedLows_4)
def m_X8_parts (b_spellingsOf : Nat → Int) (b_spellingRows : Nat → Int) (b_spellingLengths : Nat → Int) (b_spellingPrices : Nat → Int) (b_words : Int) (b_wordSounds : Nat → Int) (b_wordKinds : Nat → Int) (b_wordClasses : Nat → Int) (b_counts : Nat → Int) (b_endings : Int) (b_endingSounds : Nat → Int) (b_endingClasses : Nat → Int) (b_endingPrices : Nat → Int) (b_prices : Nat → Int) (b_stepCosts : Nat → Int) (r_fixedValues : Nat → Int) (r_heads : Nat → Int) (r_rests : Nat → Int) (r_known : Int) (r_total : Int) (r_length : Int) (r_begins : Nat → Int) (r_ends : Nat → Int) (r_entries : Nat → Int) (r_costs : Nat → Int) (s_length : Int) (s_letters : Nat → Int) (s_breaks : Nat → Int) (s_fixed : Nat → Int) (v_values : Nat → Int) (v_lettersRead : Nat → Int) (v_columns : Int) (p_now : Nat → Int) (p_nowA : Nat) (p_next : Nat → Int) (p_nextA : Nat) (p_low : Int) (p_high : Int) (p_seeds : Nat → Int) (p_seedLows : Nat → Int) : Option (Int × (Nat → Int) × (Nat → Int) × (Nat → Int) × Int × Int × Int × (Nat → Int) × (Nat → Int) × (Nat → Int) × (Nat → Int) × (Nat → Int) × (Nat → Int) × Int × (Nat → Int) × Nat × (Nat → Int) × Nat × Int × Int × (Nat → Int) × (Nat → Int)) :=
  (m_X3_renew b_spellingsOf b_spellingRows b_spellingLengths b_spellingPrices b_words b_wordSounds b_wordKinds b_wordClasses b_counts b_endings b_endingSounds b_endingClasses b_endingPrices b_prices b_stepCosts r_fixedValues r_heads r_rests r_known r_total r_length r_begins r_ends r_entries r_costs s_length s_letters s_breaks s_fixed v_values v_lettersRead v_columns p_now p_nowA p_next p_nextA p_low p_high p_seeds p_seedLows).bind fun (r_fixedValues_4, r_heads_4, r_rests_4, r_known_4, r_total_4, r_length_4, r_begins_4, r_ends_4, r_entries_4, r_costs_4, v_values_4, v_lettersRead_4, v_columns_4, p_now_4, p_nowA_4, p_next_4, p_nextA_4, p_low_4, p_high_4, p_seeds_4, p_seedLows_4) =>
  some (r_length_4, r_fixedValues_4, r_heads_4, r_rests_4, r_known_4, r_total_4, r_length_4, r_begins_4, r_ends_4, r_entries_4, r_costs_4, v_values_4, v_lettersRead_4, v_columns_4, p_now_4, p_nowA_4, p_next_4, p_nextA_4, p_low_4, p_high_4, p_seeds_4, p_seedLows_4)
def m_X8_lineChanged (o_leadsKnown : Int) (o_listedPart : Int) (r_known : Int) : Option (Int × Int × Int) :=
  (m_X3_forget r_known).bind fun r_known_4 =>
  (m_X2_forget o_leadsKnown o_listedPart).bind fun (o_leadsKnown_11, o_listedPart_11) =>
  some (o_leadsKnown_11, o_listedPart_11, r_known_4)
def m_X8_bookChanged (o_leadsKnown : Int) (o_listedPart : Int) (r_known : Int) (v_columns : Int) : Option (Int × Int × Int × Int) :=
  (m_X5_forget v_columns).bind fun v_columns_4 =>
  (m_X8_lineChanged o_leadsKnown o_listedPart r_known).bind fun (o_leadsKnown_8, o_listedPart_8, r_known_8) =>
  some (o_leadsKnown_8, o_listedPart_8, r_known_8, v_columns_4)
def m_X8_take (a_kept : Int) (b_spellingsOf : Nat → Int) (b_spellingRows : Nat → Int) (b_spellingLengths : Nat → Int) (b_spellingPrices : Nat → Int) (b_words : Int) (b_wordSounds : Nat → Int) (b_wordKinds : Nat → Int) (b_wordClasses : Nat → Int) (b_counts : Nat → Int) (b_endings : Int) (b_endingSounds : Nat → Int) (b_endingClasses : Nat → Int) (b_endingPrices : Nat → Int) (b_prices : Nat → Int) (b_stepPrices : Nat → Int) (b_pairsOf : Nat → Int) (b_stepCosts : Nat → Int) (o_leadsKnown : Int) (o_listedPart : Int) (r_fixedValues : Nat → Int) (r_heads : Nat → Int) (r_rests : Nat → Int) (r_known : Int) (r_total : Int) (r_length : Int) (r_begins : Nat → Int) (r_ends : Nat → Int) (r_entries : Nat → Int) (r_costs : Nat → Int) (s_length : Int) (s_letters : Nat → Int) (s_breaks : Nat → Int) (s_fixed : Nat → Int) (v_values : Nat → Int) (v_lettersRead : Nat → Int) (v_columns : Int) (p_now : Nat → Int) (p_nowA : Nat) (p_next : Nat → Int) (p_nextA : Nat) (p_low : Int) (p_high : Int) (p_seeds : Nat → Int) (p_seedLows : Nat → Int) (t_entries : Nat → Int) (t_lengths : Nat → Int) (t_kept : Int) : Option (Int × Int × (Nat → Int) × (Nat → Int) × (Nat → Int) × (Nat → Int) × Int × Int × (Nat → Int) × (Nat → Int) × (Nat → Int) × Int × Int × Int × (Nat → Int) × (Nat → Int) × (Nat → Int) × (Nat → Int) × Int × (Nat → Int) × (Nat → Int) × (Nat → Int) × (Nat → Int) × Int × (Nat → Int) × Nat × (Nat → Int) × Nat × Int × Int × (Nat → Int) × (Nat → Int) × (Nat → Int) × (Nat → Int) × Int) :=
  (m_X3_renew b_spellingsOf b_spellingRows b_spellingLengths b_spellingPrices b_words b_wordSounds b_wordKinds b_wordClasses b_counts b_endings b_endingSounds b_endingClasses b_endingPrices b_prices b_stepCosts r_fixedValues r_heads r_rests r_known r_total r_length r_begins r_ends r_entries r_costs s_length s_letters s_breaks s_fixed v_values v_lettersRead v_columns p_now p_nowA p_next p_nextA p_low p_high p_seeds p_seedLows).bind fun (r_fixedValues_4, r_heads_4, r_rests_4, r_known_4, r_total_4, r_length_4, r_begins_4, r_ends_4, r_entries_4, r_costs_4, v_values_4, v_lettersRead_4, v_columns_4, p_now_4, p_nowA_4, p_next_4, p_nextA_4, p_low_4, p_high_4, p_seeds_4, p_seedLows_4) =>
  gd (inI r_length_4) <|
  if r_length_4 = 0 then
    some ((-1), a_kept, b_counts, b_stepPrices, b_pairsOf, b_stepCosts, o_leadsKnown, o_listedPart, r_fixedValues_4, r_heads_4, r_rests_4, r_known_4, r_total_4, r_length_4, r_begins_4, r_ends_4, r_entries_4, r_costs_4, s_length, s_breaks, s_fixed, v_values_4, v_lettersRead_4, v_columns_4, p_now_4, p_nowA_4, p_next_4, p_nextA_4, p_low_4, p_high_4, p_seeds_4, p_seedLows_4, t_entries, t_lengths, t_kept)
  else
    gd (inI t_kept) <|
    if t_kept < 40 then
      (m_X7_keep r_length_4 t_entries t_lengths t_kept r_entries_4 36).bind fun (t_entries_51, t_lengths_51, t_kept_51) =>
      (m_X1_learn 0 r_length_4 1 b_wordKinds b_counts b_stepPrices b_pairsOf b_stepCosts r_entries_4 36).bind fun (b_counts_68, b_stepPrices_68, b_pairsOf_68, b_stepCosts_68) =>
      (m_X4_clear s_length s_breaks s_fixed).bind fun (s_length_75, s_breaks_75, s_fixed_75) =>
      (m_X0_forget a_kept).bind fun a_kept_82 =>
      (m_X8_bookChanged o_leadsKnown o_listedPart r_known_4 v_columns_4).bind fun (o_leadsKnown_86, o_listedPart_86, r_known_86, v_columns_86) =>
      some (r_length_4, a_kept_82, b_counts_68, b_stepPrices_68, b_pairsOf_68, b_stepCosts_68, o_leadsKnown_86, o_listedPart_86, r_fixedValues_4, r_heads_4, r_rests_4, r_known_86, r_total_4, r_length_4, r_begins_4, r_ends_4, r_entries_4, r_costs_4, s_length_75, s_breaks_75, s_fixed_75, v_values_4, v_lettersRead_4, v_columns_86, p_now_4, p_nowA_4, p_next_4, p_nextA_4, p_low_4, p_high_4, p_seeds_4, p_seedLows_4, t_entries_51, t_lengths_51, t_kept_51)
    else
      some ((-1), a_kept, b_counts, b_stepPrices, b_pairsOf, b_stepCosts, o_leadsKnown, o_listedPart, r_fixedValues_4, r_heads_4, r_rests_4, r_known_4, r_total_4, r_length_4, r_begins_4, r_ends_4, r_entries_4, r_costs_4, s_length, s_breaks, s_fixed, v_values_4, v_lettersRead_4, v_columns_4, p_now_4, p_nowA_4, p_next_4, p_nextA_4, p_low_4, p_high_4, p_seeds_4, p_seedLows_4, t_entries, t_lengths, t_kept)
def m_X8_unlearn (b_wordKinds : Nat → Int) (b_counts : Nat → Int) (b_stepPrices : Nat → Int) (b_pairsOf : Nat → Int) (b_stepCosts : Nat → Int) (o_leadsKnown : Int) (o_listedPart : Int) (r_known : Int) (v_columns : Int) (t_entries : Nat → Int) (t_lengths : Nat → Int) (t_kept : Int) : Option (Int × (Nat → Int) × (Nat → Int) × (Nat → Int) × (Nat → Int) × Int × Int × Int × Int × Int) :=
  gd (inI t_kept) <|
  if t_kept = 0 then
    some ((-1), b_counts, b_stepPrices, b_pairsOf, b_stepCosts, o_leadsKnown, o_listedPart, r_known, v_columns, t_kept)
  else
    vl (t_kept - 1) fun t_kept_22 =>
    gd (0 ≤ t_kept_22 ∧ t_kept_22 < 40) <|
    (m_X1_learn (t_kept_22 * 36) (t_lengths (Int.toNat t_kept_22)) (-1) b_wordKinds b_counts b_stepPrices b_pairsOf b_stepCosts t_entries 1440).bind fun (b_counts_62, b_stepPrices_62, b_pairsOf_62, b_stepCosts_62) =>
    (m_X8_bookChanged o_leadsKnown o_listedPart r_known v_columns).bind fun (o_leadsKnown_66, o_listedPart_66, r_known_66, v_columns_66) =>
    some (t_kept_22, b_counts_62, b_stepPrices_62, b_pairsOf_62, b_stepCosts_62, o_leadsKnown_66, o_listedPart_66, r_known_66, v_columns_66, t_kept_22)
def m_X9_thrown (m_code : Int) : Option (Int) :=
  some m_code
def m_X9_fail (m_code : Int) : Option (Int × Int) :=
  some (0, 1)
def m_X9_changed (m_isRead : Int) (m_isMade : Int) : Option (Int × Int) :=
  some (0, 0)
def m_X9_piece (x0 : Int) (x2 : Int) (x3 : Int) : Option (Int) :=
  gd (inL x0) <|
  gd (0 ≤ (x2 * x3) ∧ (x2 * x3) < 64) <|
  gd (0 ≤ x2 ∧ x2 < 64) <|
  some (zland (x0 / 2 ^ Int.toNat (x2 * x3)) ((1 * 2 ^ Int.toNat x2) - 1))
def m_X9_sizeOf_2 (x0 : Int) (x2 : Int) (x3 : Int) : Option (Nat × (Int)) :=
  gd (inI (x2 * x3)) <|
  if 60 ≤ (x2 * x3) then
    some (1, x3)
  else
    (m_X9_piece x0 x2 x3).bind fun r_13 =>
    gd (inI r_13) <|
    if r_13 = 0 then
      some (1, x3)
    else
      vl (x3 + 1) fun x3_19 =>
      some (0, x3_19)
def m_X9_sizeOf (x0 : Int) (x2 : Int) : Option (Int) :=
  (zloop (fun a => m_X9_sizeOf_2 x0 x2 a) FU 0).bind fun (t_2, x3_2) =>
  some x3_2
def m_X9_isRow_46 (x0 : Int) (x2 : Int) (x4 : Int) (x5 : Int) (x6 : Int) (x7 : Int) : Option (Nat × (Int × Int)) :=
  gd (inI x6) <|
  if x6 = 0 then
    some (1, (x6, x7))
  else
    gd (inI x7) <|
    gd (inI x5) <|
    if x5 ≤ x7 then
      some (1, (x6, x7))
    else
      (m_X9_piece x0 x2 x7).bind fun r_62 =>
      gd (inI r_62) <|
      gd (inI x4) <|
      if x4 < r_62 then
        vl (x7 + 1) fun x7_77 =>
        some (0, (0, x7_77))
      else
        vl (x7 + 1) fun x7_77_v2 =>
        some (0, (1, x7_77_v2))
def m_X9_isRow_41 (x0 : Int) (x2 : Int) (x4 : Int) (x5 : Int) (t0 : Int) : Option (Int) :=
  (zloop (fun a => m_X9_isRow_46 x0 x2 x4 x5 a.1 a.2) FU (t0, 0)).bind fun (t_46, x6_46, x7_46) =>
  gd (x6_46 = 0 ∨ x6_46 = 1) <|
  some x6_46
def m_X9_isRow_40 (x0 : Int) (x2 : Int) (x4 : Int) (x5 : Int) : Option (Int) :=
  m_X9_isRow_41 x0 x2 x4 x5 0
def m_X9_isRow (x0 : Int) (x2 : Int) (x3 : Int) (x4 : Int) : Option (Int) :=
  (m_X9_sizeOf x0 x2).bind fun r_2 =>
  gd (inL x0) <|
  if x0 ≤ 0 then
    m_X9_isRow_40 x0 x2 x4 r_2
  else
    gd (inI r_2) <|
    if r_2 < 1 then
      m_X9_isRow_40 x0 x2 x4 r_2
    else
      gd (inI x3) <|
      if x3 < r_2 then
        m_X9_isRow_40 x0 x2 x4 r_2
      else
        gd (0 ≤ (x2 * r_2) ∧ (x2 * r_2) < 64) <|
        gd (inL (x0 / 2 ^ Int.toNat (x2 * r_2))) <|
        if (x0 / 2 ^ Int.toNat (x2 * r_2)) = 0 then
          m_X9_isRow_41 x0 x2 x4 r_2 1
        else
          m_X9_isRow_40 x0 x2 x4 r_2
def m_X9_spelling_38 (m_code : Int) (m_spellMany : Nat → Int) (m_spellPrice : Nat → Int) (m_spell : Nat → Int) (m_isRead : Int) (m_isMade : Int) : Option (Int × Int × (Nat → Int) × (Nat → Int) × (Nat → Int) × Int × Int) :=
  (m_X9_fail m_code).bind fun (r_39, m_code_39) =>
  some (r_39, m_code_39, m_spellMany, m_spellPrice, m_spell, m_isRead, m_isMade)
def m_X9_spelling_63 (x1 : Int) (x2 : Int) (x4 : Int) (x5 : Int) (x6 : Int) (m_code : Int) (m_spellMany : Nat → Int) (m_spellPrice : Nat → Int) (m_spell : Nat → Int) (m_isRead : Int) (m_isMade : Int) : Option (Nat × (Int × Int)) :=
  gd (0 ≤ x1 ∧ x1 < 50) <|
  gd (inI x6) <|
  gd (inI (m_spellMany (Int.toNat x1))) <|
  if (m_spellMany (Int.toNat x1)) ≤ x6 then
    some (1, (x5, x6))
  else
    gd (0 ≤ ((3 * x1) + x6) ∧ ((3 * x1) + x6) < 150) <|
    gd (inL (m_spell (Int.toNat ((3 * x1) + x6)))) <|
    gd (inL x2) <|
    if (m_spell (Int.toNat ((3 * x1) + x6))) = x2 then
      vl (x6 + 1) fun x6_93_v2 =>
      some (0, (1, x6_93_v2))
    else
      vl (x6 + 1) fun x6_93 =>
      some (0, (x5, x6_93))
def m_X9_spelling_58 (x1 : Int) (x2 : Int) (x4 : Int) (t0 : Int) (m_code : Int) (m_spellMany : Nat → Int) (m_spellPrice : Nat → Int) (m_spell : Nat → Int) (m_isRead : Int) (m_isMade : Int) : Option (Int × Int × (Nat → Int) × (Nat → Int) × (Nat → Int) × Int × Int) :=
  (zloop (fun a => m_X9_spelling_63 x1 x2 x4 a.1 a.2 m_code m_spellMany m_spellPrice m_spell m_isRead m_isMade) FU (t0, 0)).bind fun (t_63, x5_63, x6_63) =>
  gd (inI x5_63) <|
  if x5_63 = 0 then
    gd (0 ≤ x1 ∧ x1 < 50) <|
    gd (0 ≤ ((3 * x1) + (m_spellMany (Int.toNat x1))) ∧ ((3 * x1) + (m_spellMany (Int.toNat x1))) < 150) <|
    vl (uz m_spell (Int.toNat ((3 * x1) + (m_spellMany (Int.toNat x1)))) x2) fun m_spell_121 =>
    gd (0 ≤ x1 ∧ x1 < 50) <|
    gd (0 ≤ ((3 * x1) + (m_spellMany (Int.toNat x1))) ∧ ((3 * x1) + (m_spellMany (Int.toNat x1))) < 150) <|
    vl (uz m_spellPrice (Int.toNat ((3 * x1) + (m_spellMany (Int.toNat x1)))) x4) fun m_spellPrice_138 =>
    gd (0 ≤ x1 ∧ x1 < 50) <|
    gd (0 ≤ x1 ∧ x1 < 50) <|
    vl (uz m_spellMany (Int.toNat x1) ((m_spellMany (Int.toNat x1)) + 1)) fun m_spellMany_148 =>
    (m_X9_changed m_isRead m_isMade).bind fun (m_isRead_150, m_isMade_150) =>
    gd (0 ≤ x1 ∧ x1 < 50) <|
    some ((m_spellMany_148 (Int.toNat x1)), m_code, m_spellMany_148, m_spellPrice_138, m_spell_121, m_isRead_150, m_isMade_150)
  else
    some ((-1), m_code, m_spellMany, m_spellPrice, m_spell, m_isRead, m_isMade)
def m_X9_spelling (x1 : Int) (x2 : Int) (x4 : Int) (m_code : Int) (m_spellMany : Nat → Int) (m_spellPrice : Nat → Int) (m_spell : Nat → Int) (m_isRead : Int) (m_isMade : Int) : Option (Int × Int × (Nat → Int) × (Nat → Int) × (Nat → Int) × Int × Int) :=
  gd (inI x1) <|
  if x1 < 0 then
    m_X9_spelling_38 0 m_spellMany m_spellPrice m_spell m_isRead m_isMade
  else
    if 50 ≤ x1 then
      m_X9_spelling_38 0 m_spellMany m_spellPrice m_spell m_isRead m_isMade
    else
      (m_X9_isRow x2 5 4 26).bind fun r_20 =>
      gd (inI r_20) <|
      if r_20 = 0 then
        m_X9_spelling_38 0 m_spellMany m_spellPrice m_spell m_isRead m_isMade
      else
        gd (inI x4) <|
        if x4 < 0 then
          m_X9_spelling_38 0 m_spellMany m_spellPrice m_spell m_isRead m_isMade
        else
          if x4 ≤ 40 then
            gd (0 ≤ x1 ∧ x1 < 50) <|
            gd (inI (m_spellMany (Int.toNat x1))) <|
            if (m_spellMany (Int.toNat x1)) = 3 then
              m_X9_spelling_58 x1 x2 x4 1 0 m_spellMany m_spellPrice m_spell m_isRead m_isMade
            else
              m_X9_spelling_58 x1 x2 x4 0 0 m_spellMany m_spellPrice m_spell m_isRead m_isMade
          else
            m_X9_spelling_38 0 m_spellMany m_spellPrice m_spell m_isRead m_isMade
def m_X9_word_55 (m_code : Int) (m_sounds : Nat → Int) (m_signs : Nat → Int) (m_kind : Nat → Int) (m_itsClass : Nat → Int) (m_words : Int) (m_isRead : Int) (m_isMade : Int) : Option (Int × Int × (Nat → Int) × (Nat → Int) × (Nat → Int) × (Nat → Int) × Int × Int × Int) :=
  (m_X9_fail m_code).bind fun (r_56, m_code_56) =>
  some (r_56, m_code_56, m_sounds, m_signs, m_kind, m_itsClass, m_words, m_isRead, m_isMade)
def m_X9_word (x1 : Int) (x3 : Int) (x5 : Int) (x6 : Int) (m_code : Int) (m_sounds : Nat → Int) (m_signs : Nat → Int) (m_kind : Nat → Int) (m_itsClass : Nat → Int) (m_words : Int) (m_isRead : Int) (m_isMade : Int) : Option (Int × Int × (Nat → Int) × (Nat → Int) × (Nat → Int) × (Nat → Int) × Int × Int × Int) :=
  (m_X9_isRow x1 6 6 50).bind fun r_12 =>
  gd (inI r_12) <|
  if r_12 = 0 then
    m_X9_word_55 0 m_sounds m_signs m_kind m_itsClass m_words m_isRead m_isMade
  else
    (m_X9_isRow x3 14 4 16383).bind fun r_25 =>
    gd (inI r_25) <|
    if r_25 = 0 then
      m_X9_word_55 0 m_sounds m_signs m_kind m_itsClass m_words m_isRead m_isMade
    else
      gd (inI x5) <|
      if x5 < 0 then
        m_X9_word_55 0 m_sounds m_signs m_kind m_itsClass m_words m_isRead m_isMade
      else
        if 7 < x5 then
          m_X9_word_55 0 m_sounds m_signs m_kind m_itsClass m_words m_isRead m_isMade
        else
          gd (inI x6) <|
          if x6 < (-1) then
            m_X9_word_55 0 m_sounds m_signs m_kind m_itsClass m_words m_isRead m_isMade
          else
            if x6 ≤ 5 then
              gd (inI m_words) <|
              if m_words = 60 then
                some ((-1), 0, m_sounds, m_signs, m_kind, m_itsClass, m_words, m_isRead, m_isMade)
              else
                gd (0 ≤ m_words ∧ m_words < 60) <|
                vl (uz m_sounds (Int.toNat m_words) x1) fun m_sounds_80 =>
                gd (0 ≤ m_words ∧ m_words < 60) <|
                vl (uz m_signs (Int.toNat m_words) x3) fun m_signs_90 =>
                gd (0 ≤ m_words ∧ m_words < 60) <|
                vl (uz m_kind (Int.toNat m_words) x5) fun m_kind_101 =>
                gd (0 ≤ m_words ∧ m_words < 60) <|
                vl (uz m_itsClass (Int.toNat m_words) x6) fun m_itsClass_112 =>
                vl (m_words + 1) fun m_words_120 =>
                (m_X9_changed m_isRead m_isMade).bind fun (m_isRead_124, m_isMade_124) =>
                some ((m_words_120 - 1), 0, m_sounds_80, m_signs_90, m_kind_101, m_itsClass_112, m_words_120, m_isRead_124, m_isMade_124)
            else
              m_X9_word_55 0 m_sounds m_signs m_kind m_itsClass m_words m_isRead m_isMade
def m_X9_ending_52 (m_code : Int) (m_endSounds : Nat → Int) (m_endSign : Nat → Int) (m_endClass : Nat → Int) (m_endPrice : Nat → Int) (m_endings : Int) (m_isRead : Int) (m_isMade : Int) : Option (Int × Int × (Nat → Int) × (Nat → Int) × (Nat → Int) × (Nat → Int) × Int × Int × Int) :=
  (m_X9_fail m_code).bind fun (r_53, m_code_53) =>
  some (r_53, m_code_53, m_endSounds, m_endSign, m_endClass, m_endPrice, m_endings, m_isRead, m_isMade)
def m_X9_ending (x1 : Int) (x3 : Int) (x4 : Int) (x5 : Int) (m_code : Int) (m_endSounds : Nat → Int) (m_endSign : Nat → Int) (m_endClass : Nat → Int) (m_endPrice : Nat → Int) (m_endings : Int) (m_isRead : Int) (m_isMade : Int) : Option (Int × Int × (Nat → Int) × (Nat → Int) × (Nat → Int) × (Nat → Int) × Int × Int × Int) :=
  (m_X9_isRow x1 6 3 50).bind fun r_11 =>
  gd (inI r_11) <|
  if r_11 = 0 then
    m_X9_ending_52 0 m_endSounds m_endSign m_endClass m_endPrice m_endings m_isRead m_isMade
  else
    gd (inI x3) <|
    if x3 < 1 then
      m_X9_ending_52 0 m_endSounds m_endSign m_endClass m_endPrice m_endings m_isRead m_isMade
    else
      if 16383 < x3 then
        m_X9_ending_52 0 m_endSounds m_endSign m_endClass m_endPrice m_endings m_isRead m_isMade
      else
        gd (inI x4) <|
        if x4 < 0 then
          m_X9_ending_52 0 m_endSounds m_endSign m_endClass m_endPrice m_endings m_isRead m_isMade
        else
          if 5 < x4 then
            m_X9_ending_52 0 m_endSounds m_endSign m_endClass m_endPrice m_endings m_isRead m_isMade
          else
            gd (inI x5) <|
            if x5 < 0 then
              m_X9_ending_52 0 m_endSounds m_endSign m_endClass m_endPrice m_endings m_isRead m_isMade
            else
              if x5 ≤ 60 then
                gd (inI m_endings) <|
                if m_endings = 8 then
                  some ((-1), 0, m_endSounds, m_endSign, m_endClass, m_endPrice, m_endings, m_isRead, m_isMade)
                else
                  gd (0 ≤ m_endings ∧ m_endings < 8) <|
                  vl (uz m_endSounds (Int.toNat m_endings) x1) fun m_endSounds_77 =>
                  gd (0 ≤ m_endings ∧ m_endings < 8) <|
                  vl (uz m_endSign (Int.toNat m_endings) x3) fun m_endSign_87 =>
                  gd (0 ≤ m_endings ∧ m_endings < 8) <|
                  vl (uz m_endClass (Int.toNat m_endings) x4) fun m_endClass_98 =>
                  gd (0 ≤ m_endings ∧ m_endings < 8) <|
                  vl (uz m_endPrice (Int.toNat m_endings) x5) fun m_endPrice_109 =>
                  vl (m_endings + 1) fun m_endings_117 =>
                  (m_X9_changed m_isRead m_isMade).bind fun (m_isRead_121, m_isMade_121) =>
                  some ((m_endings_117 - 1), 0, m_endSounds_77, m_endSign_87, m_endClass_98, m_endPrice_109, m_endings_117, m_isRead_121, m_isMade_121)
              else
                m_X9_ending_52 0 m_endSounds m_endSign m_endClass m_endPrice m_endings m_isRead m_isMade
def m_X9_price_25 (m_code : Int) (m_slip : Int) (m_guess : Int) (m_base : Int) (m_isRead : Int) (m_isMade : Int) : Option (Int × Int × Int × Int × Int × Int × Int) :=
  (m_X9_fail m_code).bind fun (r_26, m_code_26) =>
  some (r_26, m_code_26, m_slip, m_guess, m_base, m_isRead, m_isMade)
def m_X9_price_88 (x3 : Int) (m_code : Int) (m_slip : Int) (m_guess : Int) (m_base : Int) (m_isRead : Int) (m_isMade : Int) : Option (Int × Int × Int × Int × Int × Int × Int) :=
  (m_X9_changed m_isRead m_isMade).bind fun (m_isRead_89, m_isMade_89) =>
  some (x3, m_code, m_slip, m_guess, m_base, m_isRead_89, m_isMade_89)
def m_X9_price_57 (x1 : Int) (x2 : Int) (t0 : Int) (m_code : Int) (m_slip : Int) (m_guess : Int) (m_base : Int) (m_isRead : Int) (m_isMade : Int) : Option (Int × Int × Int × Int × Int × Int × Int) :=
  gd (inI x1) <|
  if x1 = 0 then
    m_X9_price_88 t0 m_code x2 m_guess m_base m_isRead m_isMade
  else
    if x1 = 1 then
      m_X9_price_88 t0 m_code m_slip x2 m_base m_isRead m_isMade
    else
      m_X9_price_88 t0 m_code m_slip m_guess x2 m_isRead m_isMade
def m_X9_price (x1 : Int) (x2 : Int) (m_code : Int) (m_slip : Int) (m_guess : Int) (m_base : Int) (m_isRead : Int) (m_isMade : Int) : Option (Int × Int × Int × Int × Int × Int × Int) :=
  gd (inI x1) <|
  if x1 < 0 then
    m_X9_price_25 0 m_slip m_guess m_base m_isRead m_isMade
  else
    if 2 < x1 then
      m_X9_price_25 0 m_slip m_guess m_base m_isRead m_isMade
    else
      gd (inI x2) <|
      if x2 < 0 then
        m_X9_price_25 0 m_slip m_guess m_base m_isRead m_isMade
      else
        if x2 ≤ 200 then
          if x1 = 0 then
            m_X9_price_57 x1 x2 m_slip 0 m_slip m_guess m_base m_isRead m_isMade
          else
            if x1 = 1 then
              m_X9_price_57 x1 x2 m_guess 0 m_slip m_guess m_base m_isRead m_isMade
            else
              m_X9_price_57 x1 x2 m_base 0 m_slip m_guess m_base m_isRead m_isMade
        else
          m_X9_price_25 0 m_slip m_guess m_base m_isRead m_isMade
def m_X9_step_35 (m_code : Int) (m_steps : Nat → Int) (m_isRead : Int) : Option (Int × Int × (Nat → Int) × Int) :=
  (m_X9_fail m_code).bind fun (r_36, m_code_36) =>
  some (r_36, m_code_36, m_steps, m_isRead)
def m_X9_step (x1 : Int) (x2 : Int) (x3 : Int) (m_code : Int) (m_steps : Nat → Int) (m_isRead : Int) : Option (Int × Int × (Nat → Int) × Int) :=
  gd (inI x1) <|
  if x1 < 0 then
    m_X9_step_35 0 m_steps m_isRead
  else
    if 9 ≤ x1 then
      m_X9_step_35 0 m_steps m_isRead
    else
      gd (inI x2) <|
      if x2 < 0 then
        m_X9_step_35 0 m_steps m_isRead
      else
        if 9 ≤ x2 then
          m_X9_step_35 0 m_steps m_isRead
        else
          gd (inI x3) <|
          if x3 < 0 then
            m_X9_step_35 0 m_steps m_isRead
          else
            if x3 ≤ 90 then
              gd (0 ≤ ((9 * x1) + x2) ∧ ((9 * x1) + x2) < 81) <|
              vl (m_steps (Int.toNat ((9 * x1) + x2))) fun x4_51 =>
              gd (0 ≤ ((9 * x1) + x2) ∧ ((9 * x1) + x2) < 81) <|
              vl (uz m_steps (Int.toNat ((9 * x1) + x2)) x3) fun m_steps_64 =>
              some (x4_51, 0, m_steps_64, 0)
            else
              m_X9_step_35 0 m_steps m_isRead
def m_X9_cell (x0 : Int) (x1 : Int) (x2 : Int) : Option (Int) :=
  some ((((((x0 * 60) + x1) * 9) + x2) + 1) * 37)
def m_X9_oneSound_2 (x1 : Int) (x2 : Int) (x3 : Int) (m_spellMany : Nat → Int) (m_spellPrice : Nat → Int) (m_spell : Nat → Int) (m_slip : Int) (m_n : Int) (m_line : Nat → Int) (m_reach : Nat → Int) (m_next : Nat → Int) : Option (Nat × (Int × (Nat → Int))) :=
  gd (inI x3) <|
  if 36 < x3 then
    some (1, (x3, m_next))
  else
    gd (0 ≤ x3 ∧ x3 < 37) <|
    vl (uz m_next (Int.toNat x3) 134217728) fun m_next_15 =>
    vl (x3 + 1) fun x3_16 =>
    some (0, (x3_16, m_next_15))
def m_X9_oneSound_105 (x1 : Int) (x2 : Int) (x3 : Int) (x4 : Int) (x5 : Int) (x7 : Int) (x8 : Int) (x9 : Int) (m_spellMany : Nat → Int) (m_spellPrice : Nat → Int) (m_spell : Nat → Int) (m_slip : Int) (m_n : Int) (m_line : Nat → Int) (m_reach : Nat → Int) (m_next : Nat → Int) : Option (Nat × (Int × Int)) :=
  gd (inI x9) <|
  gd (inI x7) <|
  if x7 ≤ x9 then
    some (1, (x8, x9))
  else
    gd (0 ≤ ((x1 + x3) + x9) ∧ ((x1 + x3) + x9) < 36) <|
    (m_X9_piece x5 5 x9).bind fun r_130 =>
    gd (inI (m_line (Int.toNat ((x1 + x3) + x9)))) <|
    gd (inI r_130) <|
    if (m_line (Int.toNat ((x1 + x3) + x9))) = r_130 then
      vl (x8 + 0) fun x8_142_v2 =>
      vl (x9 + 1) fun x9_144_v2 =>
      some (0, (x8_142_v2, x9_144_v2))
    else
      vl (x8 + 1) fun x8_142 =>
      vl (x9 + 1) fun x9_144 =>
      some (0, (x8_142, x9_144))
def m_X9_oneSound_51 (x1 : Int) (x2 : Int) (x3 : Int) (x4 : Int) (m_spellMany : Nat → Int) (m_spellPrice : Nat → Int) (m_spell : Nat → Int) (m_slip : Int) (m_n : Int) (m_line : Nat → Int) (m_reach : Nat → Int) (m_next : Nat → Int) : Option (Nat × (Int × (Nat → Int))) :=
  gd (0 ≤ x2 ∧ x2 < 50) <|
  gd (inI x4) <|
  gd (inI (m_spellMany (Int.toNat x2))) <|
  if (m_spellMany (Int.toNat x2)) ≤ x4 then
    some (1, (x4, m_next))
  else
    gd (0 ≤ ((3 * x2) + x4) ∧ ((3 * x2) + x4) < 150) <|
    vl (m_spell (Int.toNat ((3 * x2) + x4))) fun x5_73 =>
    (m_X9_sizeOf x5_73 5).bind fun r_78 =>
    gd (inI ((x1 + x3) + r_78)) <|
    gd (inI m_n) <|
    if ((x1 + x3) + r_78) ≤ m_n then
      (zloop (fun a => m_X9_oneSound_105 x1 x2 x3 x4 x5_73 r_78 a.1 a.2 m_spellMany m_spellPrice m_spell m_slip m_n m_line m_reach m_next) FU (0, 0)).bind fun (t_105, x8_105, x9_105) =>
      gd (inI x8_105) <|
      if x8_105 ≤ 1 then
        gd (0 ≤ (x3 + r_78) ∧ (x3 + r_78) < 37) <|
        gd (0 ≤ x3 ∧ x3 < 37) <|
        gd (0 ≤ ((3 * x2) + x4) ∧ ((3 * x2) + x4) < 150) <|
        gd (inI (m_next (Int.toNat (x3 + r_78)))) <|
        gd (inI (((m_reach (Int.toNat x3)) + (m_spellPrice (Int.toNat ((3 * x2) + x4)))) + (m_slip * x8_105))) <|
        gd (0 ≤ (x3 + r_78) ∧ (x3 + r_78) < 37) <|
        vl (uz m_next (Int.toNat (x3 + r_78)) (min (m_next (Int.toNat (x3 + r_78))) (((m_reach (Int.toNat x3)) + (m_spellPrice (Int.toNat ((3 * x2) + x4)))) + (m_slip * x8_105)))) fun m_next_205 =>
        vl (x4 + 1) fun x4_206 =>
        some (0, (x4_206, m_next_205))
      else
        vl (x4 + 1) fun x4_206_v2 =>
        some (0, (x4_206_v2, m_next))
    else
      vl (x4 + 1) fun x4_206_v3 =>
      some (0, (x4_206_v3, m_next))
def m_X9_oneSound_24 (x1 : Int) (x2 : Int) (x3 : Int) (m_spellMany : Nat → Int) (m_spellPrice : Nat → Int) (m_spell : Nat → Int) (m_slip : Int) (m_n : Int) (m_line : Nat → Int) (m_reach : Nat → Int) (m_next : Nat → Int) : Option (Nat × (Int × (Nat → Int))) :=
  gd (inI (x1 + x3)) <|
  gd (inI m_n) <|
  if m_n < (x1 + x3) then
    some (1, (x3, m_next))
  else
    gd (0 ≤ x3 ∧ x3 < 37) <|
    gd (inI (m_reach (Int.toNat x3))) <|
    if (m_reach (Int.toNat x3)) < 134217728 then
      (zloop (fun a => m_X9_oneSound_51 x1 x2 x3 a.1 m_spellMany m_spellPrice m_spell m_slip m_n m_line m_reach a.2) FU (0, m_next)).bind fun (t_51, x4_51, m_next_51) =>
      vl (x3 + 1) fun x3_212 =>
      some (0, (x3_212, m_next_51))
    else
      vl (x3 + 1) fun x3_212_v2 =>
      some (0, (x3_212_v2, m_next))
def m_X9_oneSound_220 (x3 : Int) (m_spellMany : Nat → Int) (m_spellPrice : Nat → Int) (m_spell : Nat → Int) (m_slip : Int) (m_n : Int) (m_line : Nat → Int) (m_reach : Nat → Int) (m_next : Nat → Int) : Option (Nat × (Int × (Nat → Int))) :=
  gd (inI x3) <|
  if 36 < x3 then
    some (1, (x3, m_reach))
  else
    gd (0 ≤ x3 ∧ x3 < 37) <|
    gd (0 ≤ x3 ∧ x3 < 37) <|
    vl (uz m_reach (Int.toNat x3) (m_next (Int.toNat x3))) fun m_reach_237 =>
    vl (x3 + 1) fun x3_238 =>
    some (0, (x3_238, m_reach_237))
def m_X9_oneSound (x1 : Int) (x2 : Int) (m_spellMany : Nat → Int) (m_spellPrice : Nat → Int) (m_spell : Nat → Int) (m_slip : Int) (m_n : Int) (m_line : Nat → Int) (m_reach : Nat → Int) (m_next : Nat → Int) : Option ((Nat → Int) × (Nat → Int)) :=
  (zloop (fun a => m_X9_oneSound_2 x1 x2 a.1 m_spellMany m_spellPrice m_spell m_slip m_n m_line m_reach a.2) FU (0, m_next)).bind fun (t_2, x3_2, m_next_2) =>
  (zloop (fun a => m_X9_oneSound_24 x1 x2 a.1 m_spellMany m_spellPrice m_spell m_slip m_n m_line m_reach a.2) FU (0, m_next_2)).bind fun (t_24, x3_24, m_next_24) =>
  (zloop (fun a => m_X9_oneSound_220 a.1 m_spellMany m_spellPrice m_spell m_slip m_n m_line a.2 m_next_24) FU (0, m_reach)).bind fun (t_220, x3_220, m_reach_220) =>
  some (m_reach_220, m_next_24)
def m_X9_keepRow_2 (x1 : Int) (x2 : Int) (m_table : Nat → Int) (m_reach : Nat → Int) : Option (Nat × (Int × (Nat → Int))) :=
  gd (inI x2) <|
  if 36 < x2 then
    some (1, (x2, m_table))
  else
    gd (0 ≤ x2 ∧ x2 < 37) <|
    gd (0 ≤ (x1 + x2) ∧ (x1 + x2) < 719280) <|
    vl (uz m_table (Int.toNat (x1 + x2)) (m_reach (Int.toNat x2))) fun m_table_21 =>
    vl (x2 + 1) fun x2_22 =>
    some (0, (x2_22, m_table_21))
def m_X9_keepRow (x1 : Int) (m_table : Nat → Int) (m_reach : Nat → Int) : Option ((Nat → Int)) :=
  (zloop (fun a => m_X9_keepRow_2 x1 a.1 a.2 m_reach) FU (0, m_table)).bind fun (t_2, x2_2, m_table_2) =>
  some m_table_2
def m_X9_makeTable_22 (x1 : Int) (x2 : Int) (x3 : Int) (m_spellMany : Nat → Int) (m_spellPrice : Nat → Int) (m_spell : Nat → Int) (m_sounds : Nat → Int) (m_endSounds : Nat → Int) (m_itsClass : Nat → Int) (m_endClass : Nat → Int) (m_words : Int) (m_endings : Int) (m_slip : Int) (m_n : Int) (m_line : Nat → Int) (m_table : Nat → Int) (m_reach : Nat → Int) (m_next : Nat → Int) : Option (Nat × (Int × (Nat → Int))) :=
  gd (inI x3) <|
  if 36 < x3 then
    some (1, (x3, m_reach))
  else
    if x3 = 0 then
      gd (0 ≤ x3 ∧ x3 < 37) <|
      vl (uz m_reach (Int.toNat x3) 0) fun m_reach_43_v2 =>
      vl (x3 + 1) fun x3_44_v2 =>
      some (0, (x3_44_v2, m_reach_43_v2))
    else
      gd (0 ≤ x3 ∧ x3 < 37) <|
      vl (uz m_reach (Int.toNat x3) 134217728) fun m_reach_43 =>
      vl (x3 + 1) fun x3_44 =>
      some (0, (x3_44, m_reach_43))
def m_X9_makeTable_52 (x1 : Int) (x2 : Int) (x3 : Int) (m_spellMany : Nat → Int) (m_spellPrice : Nat → Int) (m_spell : Nat → Int) (m_sounds : Nat → Int) (m_endSounds : Nat → Int) (m_itsClass : Nat → Int) (m_endClass : Nat → Int) (m_words : Int) (m_endings : Int) (m_slip : Int) (m_n : Int) (m_line : Nat → Int) (m_table : Nat → Int) (m_reach : Nat → Int) (m_next : Nat → Int) : Option (Nat × (Int × (Nat → Int) × (Nat → Int))) :=
  gd (0 ≤ x2 ∧ x2 < 60) <|
  (m_X9_sizeOf (m_sounds (Int.toNat x2)) 6).bind fun r_61 =>
  gd (inI x3) <|
  gd (inI r_61) <|
  if r_61 ≤ x3 then
    some (1, (x3, m_reach, m_next))
  else
    gd (0 ≤ x2 ∧ x2 < 60) <|
    (m_X9_piece (m_sounds (Int.toNat x2)) 6 x3).bind fun r_78 =>
    (m_X9_oneSound x1 (r_78 - 1) m_spellMany m_spellPrice m_spell m_slip m_n m_line m_reach m_next).bind fun (m_reach_83, m_next_83) =>
    vl (x3 + 1) fun x3_86 =>
    some (0, (x3_86, m_reach_83, m_next_83))
def m_X9_makeTable_133 (x1 : Int) (x2 : Int) (x3 : Int) (x4 : Int) (m_spellMany : Nat → Int) (m_spellPrice : Nat → Int) (m_spell : Nat → Int) (m_sounds : Nat → Int) (m_endSounds : Nat → Int) (m_itsClass : Nat → Int) (m_endClass : Nat → Int) (m_words : Int) (m_endings : Int) (m_slip : Int) (m_n : Int) (m_line : Nat → Int) (m_table : Nat → Int) (m_reach : Nat → Int) (m_next : Nat → Int) : Option (Nat × (Int × (Nat → Int))) :=
  gd (inI x4) <|
  if 36 < x4 then
    some (1, (x4, m_reach))
  else
    (m_X9_cell x1 x2 (-1)).bind fun r_153 =>
    gd (0 ≤ (r_153 + x4) ∧ (r_153 + x4) < 719280) <|
    gd (0 ≤ x4 ∧ x4 < 37) <|
    vl (uz m_reach (Int.toNat x4) (m_table (Int.toNat (r_153 + x4)))) fun m_reach_160 =>
    vl (x4 + 1) fun x4_161 =>
    some (0, (x4_161, m_reach_160))
def m_X9_makeTable_170 (x1 : Int) (x2 : Int) (x3 : Int) (x4 : Int) (m_spellMany : Nat → Int) (m_spellPrice : Nat → Int) (m_spell : Nat → Int) (m_sounds : Nat → Int) (m_endSounds : Nat → Int) (m_itsClass : Nat → Int) (m_endClass : Nat → Int) (m_words : Int) (m_endings : Int) (m_slip : Int) (m_n : Int) (m_line : Nat → Int) (m_table : Nat → Int) (m_reach : Nat → Int) (m_next : Nat → Int) : Option (Nat × (Int × (Nat → Int) × (Nat → Int))) :=
  gd (0 ≤ x3 ∧ x3 < 8) <|
  (m_X9_sizeOf (m_endSounds (Int.toNat x3)) 6).bind fun r_180 =>
  gd (inI x4) <|
  gd (inI r_180) <|
  if r_180 ≤ x4 then
    some (1, (x4, m_reach, m_next))
  else
    gd (0 ≤ x3 ∧ x3 < 8) <|
    (m_X9_piece (m_endSounds (Int.toNat x3)) 6 x4).bind fun r_198 =>
    (m_X9_oneSound x1 (r_198 - 1) m_spellMany m_spellPrice m_spell m_slip m_n m_line m_reach m_next).bind fun (m_reach_203, m_next_203) =>
    vl (x4 + 1) fun x4_206 =>
    some (0, (x4_206, m_reach_203, m_next_203))
def m_X9_makeTable_104 (x1 : Int) (x2 : Int) (x3 : Int) (m_spellMany : Nat → Int) (m_spellPrice : Nat → Int) (m_spell : Nat → Int) (m_sounds : Nat → Int) (m_endSounds : Nat → Int) (m_itsClass : Nat → Int) (m_endClass : Nat → Int) (m_words : Int) (m_endings : Int) (m_slip : Int) (m_n : Int) (m_line : Nat → Int) (m_table : Nat → Int) (m_reach : Nat → Int) (m_next : Nat → Int) : Option (Nat × (Int × (Nat → Int) × (Nat → Int) × (Nat → Int))) :=
  gd (inI x3) <|
  gd (inI m_endings) <|
  if m_endings ≤ x3 then
    some (1, (x3, m_table, m_reach, m_next))
  else
    gd (0 ≤ x3 ∧ x3 < 8) <|
    gd (0 ≤ x2 ∧ x2 < 60) <|
    gd (inI (m_endClass (Int.toNat x3))) <|
    gd (inI (m_itsClass (Int.toNat x2))) <|
    if (m_endClass (Int.toNat x3)) = (m_itsClass (Int.toNat x2)) then
      (zloop (fun a => m_X9_makeTable_133 x1 x2 x3 a.1 m_spellMany m_spellPrice m_spell m_sounds m_endSounds m_itsClass m_endClass m_words m_endings m_slip m_n m_line m_table a.2 m_next) FU (0, m_reach)).bind fun (t_133, x4_133, m_reach_133) =>
      (zloop (fun a => m_X9_makeTable_170 x1 x2 x3 a.1 m_spellMany m_spellPrice m_spell m_sounds m_endSounds m_itsClass m_endClass m_words m_endings m_slip m_n m_line m_table a.2.1 a.2.2) FU (0, m_reach_133, m_next)).bind fun (t_170, x4_170, m_reach_170, m_next_170) =>
      (m_X9_cell x1 x2 x3).bind fun r_216 =>
      (m_X9_keepRow r_216 m_table m_reach_170).bind fun m_table_219 =>
      vl (x3 + 1) fun x3_222 =>
      some (0, (x3_222, m_table_219, m_reach_170, m_next_170))
    else
      vl (x3 + 1) fun x3_222_v2 =>
      some (0, (x3_222_v2, m_table, m_reach, m_next))
def m_X9_makeTable_12 (x1 : Int) (x2 : Int) (m_spellMany : Nat → Int) (m_spellPrice : Nat → Int) (m_spell : Nat → Int) (m_sounds : Nat → Int) (m_endSounds : Nat → Int) (m_itsClass : Nat → Int) (m_endClass : Nat → Int) (m_words : Int) (m_endings : Int) (m_slip : Int) (m_n : Int) (m_line : Nat → Int) (m_table : Nat → Int) (m_reach : Nat → Int) (m_next : Nat → Int) : Option (Nat × (Int × (Nat → Int) × (Nat → Int) × (Nat → Int))) :=
  gd (inI x2) <|
  gd (inI m_words) <|
  if m_words ≤ x2 then
    some (1, (x2, m_table, m_reach, m_next))
  else
    (zloop (fun a => m_X9_makeTable_22 x1 x2 a.1 m_spellMany m_spellPrice m_spell m_sounds m_endSounds m_itsClass m_endClass m_words m_endings m_slip m_n m_line m_table a.2 m_next) FU (0, m_reach)).bind fun (t_22, x3_22, m_reach_22) =>
    (zloop (fun a => m_X9_makeTable_52 x1 x2 a.1 m_spellMany m_spellPrice m_spell m_sounds m_endSounds m_itsClass m_endClass m_words m_endings m_slip m_n m_line m_table a.2.1 a.2.2) FU (0, m_reach_22, m_next)).bind fun (t_52, x3_52, m_reach_52, m_next_52) =>
    (m_X9_cell x1 x2 (-1)).bind fun r_96 =>
    (m_X9_keepRow r_96 m_table m_reach_52).bind fun m_table_99 =>
    (zloop (fun a => m_X9_makeTable_104 x1 x2 a.1 m_spellMany m_spellPrice m_spell m_sounds m_endSounds m_itsClass m_endClass m_words m_endings m_slip m_n m_line a.2.1 a.2.2.1 a.2.2.2) FU (0, m_table_99, m_reach_52, m_next_52)).bind fun (t_104, x3_104, m_table_104, m_reach_104, m_next_104) =>
    vl (x2 + 1) fun x2_228 =>
    some (0, (x2_228, m_table_104, m_reach_104, m_next_104))
def m_X9_makeTable_2 (x1 : Int) (m_spellMany : Nat → Int) (m_spellPrice : Nat → Int) (m_spell : Nat → Int) (m_sounds : Nat → Int) (m_endSounds : Nat → Int) (m_itsClass : Nat → Int) (m_endClass : Nat → Int) (m_words : Int) (m_endings : Int) (m_slip : Int) (m_n : Int) (m_line : Nat → Int) (m_table : Nat → Int) (m_reach : Nat → Int) (m_next : Nat → Int) : Option (Nat × (Int × (Nat → Int) × (Nat → Int) × (Nat → Int))) :=
  gd (inI x1) <|
  gd (inI m_n) <|
  if m_n ≤ x1 then
    some (1, (x1, m_table, m_reach, m_next))
  else
    (zloop (fun a => m_X9_makeTable_12 x1 a.1 m_spellMany m_spellPrice m_spell m_sounds m_endSounds m_itsClass m_endClass m_words m_endings m_slip m_n m_line a.2.1 a.2.2.1 a.2.2.2) FU (0, m_table, m_reach, m_next)).bind fun (t_12, x2_12, m_table_12, m_reach_12, m_next_12) =>
    vl (x1 + 1) fun x1_234 =>
    some (0, (x1_234, m_table_12, m_reach_12, m_next_12))
def m_X9_makeTable (m_spellMany : Nat → Int) (m_spellPrice : Nat → Int) (m_spell : Nat → Int) (m_sounds : Nat → Int) (m_endSounds : Nat → Int) (m_itsClass : Nat → Int) (m_endClass : Nat → Int) (m_words : Int) (m_endings : Int) (m_slip : Int) (m_n : Int) (m_line : Nat → Int) (m_table : Nat → Int) (m_reach : Nat → Int) (m_next : Nat → Int) : Option ((Nat → Int) × (Nat → Int) × (Nat → Int)) :=
  (zloop (fun a => m_X9_makeTable_2 a.1 m_spellMany m_spellPrice m_spell m_sounds m_endSounds m_itsClass m_endClass m_words m_endings m_slip m_n m_line a.2.1 a.2.2.1 a.2.2.2) FU (0, m_table, m_reach, m_next)).bind fun (t_2, x1_2, m_table_2, m_reach_2, m_next_2) =>
  some (m_table_2, m_reach_2, m_next_2)
def m_X9_bitsOf_4 (x1 : Int) (x2 : Int) : Option (Nat × (Int × Int)) :=
  gd (inI x2) <|
  if x2 ≤ 0 then
    some (1, (x1, x2))
  else
    vl (x1 + 1) fun x1_8 =>
    vl (x2 / 2) fun x2_14 =>
    some (0, (x1_8, x2_14))
def m_X9_bitsOf (x0 : Int) : Option (Int) :=
  (zloop (fun a => m_X9_bitsOf_4 a.1 a.2) FU (0, x0)).bind fun (t_4, x1_4, x2_4) =>
  some x1_4
def m_X9_costOf_54 (x1 : Int) (x2 : Int) (x3 : Int) (x4 : Int) (m_itsClass : Nat → Int) (m_count : Nat → Int) (m_endClass : Nat → Int) (m_endPrice : Nat → Int) (m_guess : Int) (m_base : Int) (m_table : Nat → Int) : Option (Int) :=
  (m_X9_cell x1 x3 x4).bind fun r_62 =>
  gd (0 ≤ ((r_62 + x2) - x1) ∧ ((r_62 + x2) - x1) < 719280) <|
  vl (m_table (Int.toNat ((r_62 + x2) - x1))) fun x5_70 =>
  gd (inI x5_70) <|
  if x5_70 < 134217728 then
    gd (0 ≤ x3 ∧ x3 < 60) <|
    (m_X9_bitsOf (m_count (Int.toNat x3))).bind fun r_96 =>
    gd (inI x4) <|
    if x4 = (-1) then
      some (((m_base - (8 * r_96)) + 0) + x5_70)
    else
      gd (0 ≤ x4 ∧ x4 < 8) <|
      some (((m_base - (8 * r_96)) + (m_endPrice (Int.toNat x4))) + x5_70)
  else
    some 134217728
def m_X9_costOf (x1 : Int) (x2 : Int) (x3 : Int) (x4 : Int) (m_itsClass : Nat → Int) (m_count : Nat → Int) (m_endClass : Nat → Int) (m_endPrice : Nat → Int) (m_guess : Int) (m_base : Int) (m_table : Nat → Int) : Option (Int) :=
  gd (inI x3) <|
  if x3 = 60 then
    gd (inI x2) <|
    gd (inI (x1 + 1)) <|
    if x2 = (x1 + 1) then
      gd (inI x4) <|
      if x4 = (-1) then
        some m_guess
      else
        some 134217728
    else
      some 134217728
  else
    gd (inI x4) <|
    if x4 = (-1) then
      m_X9_costOf_54 x1 x2 x3 x4 m_itsClass m_count m_endClass m_endPrice m_guess m_base m_table
    else
      gd (0 ≤ x4 ∧ x4 < 8) <|
      gd (0 ≤ x3 ∧ x3 < 60) <|
      gd (inI (m_endClass (Int.toNat x4))) <|
      gd (inI (m_itsClass (Int.toNat x3))) <|
      if (m_endClass (Int.toNat x4)) = (m_itsClass (Int.toNat x3)) then
        m_X9_costOf_54 x1 x2 x3 x4 m_itsClass m_count m_endClass m_endPrice m_guess m_base m_table
      else
        some 134217728
def m_X9_kindOf (x1 : Int) (m_kind : Nat → Int) : Option (Int) :=
  gd (inI x1) <|
  if x1 = 60 then
    some 8
  else
    gd (0 ≤ x1 ∧ x1 < 60) <|
    some (m_kind (Int.toNat x1))
def m_X9_stepOf (x1 : Int) (x2 : Int) (m_steps : Nat → Int) (m_pairs : Nat → Int) : Option (Int) :=
  gd (inI x1) <|
  if x1 = 9 then
    some 0
  else
    gd (0 ≤ ((9 * x1) + x2) ∧ ((9 * x1) + x2) < 81) <|
    gd (0 ≤ ((9 * x1) + x2) ∧ ((9 * x1) + x2) < 81) <|
    (m_X9_bitsOf (m_pairs (Int.toNat ((9 * x1) + x2)))).bind fun r_33 =>
    some ((m_steps (Int.toNat ((9 * x1) + x2))) - (2 * r_33))
def m_X9_isLet_38 (x2 : Int) (x3 : Int) (m_n : Int) (m_breaks : Nat → Int) : Option (Nat × (Int)) :=
  gd (inI x3) <|
  gd (inI x2) <|
  if x2 ≤ x3 then
    some (1, x3)
  else
    gd (0 ≤ x3 ∧ x3 < 37) <|
    gd (inI (m_breaks (Int.toNat x3))) <|
    if (m_breaks (Int.toNat x3)) = 1 then
      some (2, x3)
    else
      vl (x3 + 1) fun x3_55 =>
      some (0, x3_55)
def m_X9_isLet_34 (x1 : Int) (x2 : Int) (m_n : Int) (m_breaks : Nat → Int) : Option (Int) :=
  vl (x1 + 1) fun x3_37 =>
  (zloop (fun a => m_X9_isLet_38 x2 a m_n m_breaks) FU x3_37).bind fun (t_38, x3_38) =>
  if t_38 = 1 then
    some 1
  else
    some 0
end
section
def m_X9_isLet_14 (x1 : Int) (x2 : Int) (m_n : Int) (m_breaks : Nat → Int) : Option (Int) :=
  gd (inI x2) <|
  gd (inI m_n) <|
  if m_n ≤ x2 then
    m_X9_isLet_34 x1 x2 m_n m_breaks
  else
    gd (0 ≤ x2 ∧ x2 < 37) <|
    gd (inI (m_breaks (Int.toNat x2))) <|
    if (m_breaks (Int.toNat x2)) = 2 then
      some 0
    else
      m_X9_isLet_34 x1 x2 m_n m_breaks
def m_X9_isLet (x1 : Int) (x2 : Int) (m_n : Int) (m_breaks : Nat → Int) : Option (Int) :=
  gd (inI x1) <|
  if x1 ≤ 0 then
    m_X9_isLet_14 x1 x2 m_n m_breaks
  else
    gd (0 ≤ x1 ∧ x1 < 37) <|
    gd (inI (m_breaks (Int.toNat x1))) <|
    if (m_breaks (Int.toNat x1)) = 2 then
      some 0
    else
      m_X9_isLet_14 x1 x2 m_n m_breaks
def m_X9_isAllowed_11 (x1 : Int) (x2 : Int) (x3 : Int) (x4 : Int) (x5 : Int) (x6 : Int) (m_n : Int) (m_fixedMany : Int) (m_breaks : Nat → Int) (m_fixedFrom : Nat → Int) (m_fixedTo : Nat → Int) (m_fixedWord : Nat → Int) (m_fixedEnding : Nat → Int) : Option (Nat × (Int × Int)) :=
  gd (inI x6) <|
  gd (inI m_fixedMany) <|
  if m_fixedMany ≤ x6 then
    some (1, (x5, x6))
  else
    gd (inI x5) <|
    if x5 = 0 then
      some (1, (x5, x6))
    else
      gd (0 ≤ x6 ∧ x6 < 36) <|
      gd (inI (m_fixedTo (Int.toNat x6))) <|
      gd (inI x1) <|
      if (m_fixedTo (Int.toNat x6)) ≤ x1 then
        vl (x6 + 1) fun x6_102 =>
        some (0, (x5, x6_102))
      else
        gd (0 ≤ x6 ∧ x6 < 36) <|
        gd (inI (m_fixedFrom (Int.toNat x6))) <|
        gd (inI x2) <|
        if (m_fixedFrom (Int.toNat x6)) < x2 then
          gd (0 ≤ x6 ∧ x6 < 36) <|
          if (m_fixedFrom (Int.toNat x6)) = x1 then
            gd (0 ≤ x6 ∧ x6 < 36) <|
            if (m_fixedTo (Int.toNat x6)) = x2 then
              gd (0 ≤ x6 ∧ x6 < 36) <|
              gd (inI (m_fixedWord (Int.toNat x6))) <|
              gd (inI x3) <|
              if (m_fixedWord (Int.toNat x6)) = x3 then
                gd (0 ≤ x6 ∧ x6 < 36) <|
                gd (inI (m_fixedEnding (Int.toNat x6))) <|
                gd (inI x4) <|
                if (m_fixedEnding (Int.toNat x6)) = x4 then
                  vl (x6 + 1) fun x6_102_v6 =>
                  some (0, (1, x6_102_v6))
                else
                  vl (x6 + 1) fun x6_102_v5 =>
                  some (0, (0, x6_102_v5))
              else
                vl (x6 + 1) fun x6_102_v4 =>
                some (0, (0, x6_102_v4))
            else
              vl (x6 + 1) fun x6_102_v3 =>
              some (0, (0, x6_102_v3))
          else
            vl (x6 + 1) fun x6_102_v2 =>
            some (0, (0, x6_102_v2))
        else
          vl (x6 + 1) fun x6_102_v7 =>
          some (0, (x5, x6_102_v7))
def m_X9_isAllowed (x1 : Int) (x2 : Int) (x3 : Int) (x4 : Int) (m_n : Int) (m_fixedMany : Int) (m_breaks : Nat → Int) (m_fixedFrom : Nat → Int) (m_fixedTo : Nat → Int) (m_fixedWord : Nat → Int) (m_fixedEnding : Nat → Int) : Option (Int) :=
  (m_X9_isLet x1 x2 m_n m_breaks).bind fun r_3 =>
  (zloop (fun a => m_X9_isAllowed_11 x1 x2 x3 x4 a.1 a.2 m_n m_fixedMany m_breaks m_fixedFrom m_fixedTo m_fixedWord m_fixedEnding) FU (r_3, 0)).bind fun (t_11, x5_11, x6_11) =>
  gd (x5_11 = 0 ∨ x5_11 = 1) <|
  some x5_11
def m_X9_at (x0 : Int) (x1 : Int) : Option (Int) :=
  some ((10 * x0) + x1)
def m_X9_onePart_77 (x1 : Int) (x3 : Int) (x7 : Int) (x8 : Int) (m_kind : Nat → Int) (m_itsClass : Nat → Int) (m_count : Nat → Int) (m_endClass : Nat → Int) (m_endPrice : Nat → Int) (m_guess : Int) (m_base : Int) (m_steps : Nat → Int) (m_pairs : Nat → Int) (m_n : Int) (m_fixedMany : Int) (m_breaks : Nat → Int) (m_fixedFrom : Nat → Int) (m_fixedTo : Nat → Int) (m_fixedWord : Nat → Int) (m_fixedEnding : Nat → Int) (m_table : Nat → Int) (m_rest : Nat → Int) (m_parts : Int) (m_partFrom : Nat → Int) (m_partTo : Nat → Int) (m_partWord : Nat → Int) (m_partEnding : Nat → Int) (m_found : Int) (m_from0 : Int) (m_kind0 : Int) : Option (Nat × (Int × (Nat → Int))) :=
  gd (inI x8) <|
  if 9 < x8 then
    some (1, (x8, m_rest))
  else
    (m_X9_at x1 x8).bind fun r_91 =>
    (m_X9_at x1 x8).bind fun r_101 =>
    gd (0 ≤ r_101 ∧ r_101 < 370) <|
    (m_X9_kindOf x3 m_kind).bind fun r_112 =>
    (m_X9_stepOf x8 r_112 m_steps m_pairs).bind fun r_115 =>
    gd (inI (m_rest (Int.toNat r_101))) <|
    gd (inI (x7 + r_115)) <|
    gd (0 ≤ r_91 ∧ r_91 < 370) <|
    vl (uz m_rest (Int.toNat r_91) (min (m_rest (Int.toNat r_101)) (x7 + r_115))) fun m_rest_122 =>
    vl (x8 + 1) fun x8_123 =>
    some (0, (x8_123, m_rest_122))
def m_X9_onePart (x1 : Int) (x2 : Int) (x3 : Int) (x4 : Int) (x5 : Int) (m_kind : Nat → Int) (m_itsClass : Nat → Int) (m_count : Nat → Int) (m_endClass : Nat → Int) (m_endPrice : Nat → Int) (m_guess : Int) (m_base : Int) (m_steps : Nat → Int) (m_pairs : Nat → Int) (m_n : Int) (m_fixedMany : Int) (m_breaks : Nat → Int) (m_fixedFrom : Nat → Int) (m_fixedTo : Nat → Int) (m_fixedWord : Nat → Int) (m_fixedEnding : Nat → Int) (m_table : Nat → Int) (m_rest : Nat → Int) (m_parts : Int) (m_partFrom : Nat → Int) (m_partTo : Nat → Int) (m_partWord : Nat → Int) (m_partEnding : Nat → Int) (m_found : Int) (m_from0 : Int) (m_kind0 : Int) : Option ((Nat → Int) × (Nat → Int) × (Nat → Int) × (Nat → Int) × (Nat → Int) × Int) :=
  (m_X9_costOf x1 x2 x3 x4 m_itsClass m_count m_endClass m_endPrice m_guess m_base m_table).bind fun r_6 =>
  gd (inI r_6) <|
  if 134217728 ≤ r_6 then
    some (m_rest, m_partFrom, m_partTo, m_partWord, m_partEnding, m_found)
  else
    (m_X9_kindOf x3 m_kind).bind fun r_25 =>
    (m_X9_at x2 r_25).bind fun r_28 =>
    gd (0 ≤ r_28 ∧ r_28 < 370) <|
    gd (inI (m_rest (Int.toNat r_28))) <|
    if 134217728 ≤ (m_rest (Int.toNat r_28)) then
      some (m_rest, m_partFrom, m_partTo, m_partWord, m_partEnding, m_found)
    else
      (m_X9_isAllowed x1 x2 x3 x4 m_n m_fixedMany m_breaks m_fixedFrom m_fixedTo m_fixedWord m_fixedEnding).bind fun r_43 =>
      gd (inI r_43) <|
      if r_43 = 0 then
        some (m_rest, m_partFrom, m_partTo, m_partWord, m_partEnding, m_found)
      else
        (m_X9_kindOf x3 m_kind).bind fun r_59 =>
        (m_X9_at x2 r_59).bind fun r_62 =>
        gd (0 ≤ r_62 ∧ r_62 < 370) <|
        vl (r_6 + (m_rest (Int.toNat r_62))) fun x7_67 =>
        gd (inI x5) <|
        if x5 = 0 then
          (zloop (fun a => m_X9_onePart_77 x1 x3 x7_67 a.1 m_kind m_itsClass m_count m_endClass m_endPrice m_guess m_base m_steps m_pairs m_n m_fixedMany m_breaks m_fixedFrom m_fixedTo m_fixedWord m_fixedEnding m_table a.2 m_parts m_partFrom m_partTo m_partWord m_partEnding m_found m_from0 m_kind0) FU (0, m_rest)).bind fun (t_77, x8_77, m_rest_77) =>
          some (m_rest_77, m_partFrom, m_partTo, m_partWord, m_partEnding, m_found)
        else
          gd (inI m_found) <|
          if m_found = 0 then
            (m_X9_kindOf x3 m_kind).bind fun r_146 =>
            (m_X9_stepOf m_kind0 r_146 m_steps m_pairs).bind fun r_149 =>
            (m_X9_at m_from0 m_kind0).bind fun r_165 =>
            gd (0 ≤ r_165 ∧ r_165 < 370) <|
            gd (inI (x7_67 + r_149)) <|
            gd (inI (m_rest (Int.toNat r_165))) <|
            if (x7_67 + r_149) = (m_rest (Int.toNat r_165)) then
              gd (0 ≤ m_parts ∧ m_parts < 36) <|
              vl (uz m_partFrom (Int.toNat m_parts) x1) fun m_partFrom_187 =>
              gd (0 ≤ m_parts ∧ m_parts < 36) <|
              vl (uz m_partTo (Int.toNat m_parts) x2) fun m_partTo_197 =>
              gd (0 ≤ m_parts ∧ m_parts < 36) <|
              vl (uz m_partWord (Int.toNat m_parts) x3) fun m_partWord_207 =>
              gd (0 ≤ m_parts ∧ m_parts < 36) <|
              vl (uz m_partEnding (Int.toNat m_parts) x4) fun m_partEnding_218 =>
              some (m_rest, m_partFrom_187, m_partTo_197, m_partWord_207, m_partEnding_218, 1)
            else
              some (m_rest, m_partFrom, m_partTo, m_partWord, m_partEnding, m_found)
          else
            some (m_rest, m_partFrom, m_partTo, m_partWord, m_partEnding, m_found)
def m_X9_eachFrom_52 (x1 : Int) (x2 : Int) (x3 : Int) (x4 : Int) (x5 : Int) (m_kind : Nat → Int) (m_itsClass : Nat → Int) (m_count : Nat → Int) (m_endClass : Nat → Int) (m_endPrice : Nat → Int) (m_words : Int) (m_endings : Int) (m_guess : Int) (m_base : Int) (m_steps : Nat → Int) (m_pairs : Nat → Int) (m_n : Int) (m_fixedMany : Int) (m_breaks : Nat → Int) (m_fixedFrom : Nat → Int) (m_fixedTo : Nat → Int) (m_fixedWord : Nat → Int) (m_fixedEnding : Nat → Int) (m_table : Nat → Int) (m_rest : Nat → Int) (m_parts : Int) (m_partFrom : Nat → Int) (m_partTo : Nat → Int) (m_partWord : Nat → Int) (m_partEnding : Nat → Int) (m_found : Int) (m_from0 : Int) (m_kind0 : Int) : Option (Nat × (Int × (Nat → Int) × (Nat → Int) × (Nat → Int) × (Nat → Int) × (Nat → Int) × Int)) :=
  gd (inI x5) <|
  gd (inI m_n) <|
  if m_n < x5 then
    some (1, (x5, m_rest, m_partFrom, m_partTo, m_partWord, m_partEnding, m_found))
  else
    (m_X9_onePart x1 x5 x3 x4 x2 m_kind m_itsClass m_count m_endClass m_endPrice m_guess m_base m_steps m_pairs m_n m_fixedMany m_breaks m_fixedFrom m_fixedTo m_fixedWord m_fixedEnding m_table m_rest m_parts m_partFrom m_partTo m_partWord m_partEnding m_found m_from0 m_kind0).bind fun (m_rest_69, m_partFrom_69, m_partTo_69, m_partWord_69, m_partEnding_69, m_found_69) =>
    vl (x5 + 1) fun x5_72 =>
    some (0, (x5_72, m_rest_69, m_partFrom_69, m_partTo_69, m_partWord_69, m_partEnding_69, m_found_69))
def m_X9_eachFrom_44 (x1 : Int) (x2 : Int) (x3 : Int) (x4 : Int) (t0 : Int) (t1 : Int) (m_kind : Nat → Int) (m_itsClass : Nat → Int) (m_count : Nat → Int) (m_endClass : Nat → Int) (m_endPrice : Nat → Int) (m_words : Int) (m_endings : Int) (m_guess : Int) (m_base : Int) (m_steps : Nat → Int) (m_pairs : Nat → Int) (m_n : Int) (m_fixedMany : Int) (m_breaks : Nat → Int) (m_fixedFrom : Nat → Int) (m_fixedTo : Nat → Int) (m_fixedWord : Nat → Int) (m_fixedEnding : Nat → Int) (m_table : Nat → Int) (m_rest : Nat → Int) (m_parts : Int) (m_partFrom : Nat → Int) (m_partTo : Nat → Int) (m_partWord : Nat → Int) (m_partEnding : Nat → Int) (m_found : Int) (m_from0 : Int) (m_kind0 : Int) : Option (Nat × (Int × (Nat → Int) × (Nat → Int) × (Nat → Int) × (Nat → Int) × (Nat → Int) × Int)) :=
  gd (inI t0) <|
  gd (inI t1) <|
  if t1 ≤ t0 then
    some (1, (x4, m_rest, m_partFrom, m_partTo, m_partWord, m_partEnding, m_found))
  else
    vl (x1 + 1) fun x5_50 =>
    (zloop (fun a => m_X9_eachFrom_52 x1 x2 x3 x4 a.1 m_kind m_itsClass m_count m_endClass m_endPrice m_words m_endings m_guess m_base m_steps m_pairs m_n m_fixedMany m_breaks m_fixedFrom m_fixedTo m_fixedWord m_fixedEnding m_table a.2.1 m_parts a.2.2.1 a.2.2.2.1 a.2.2.2.2.1 a.2.2.2.2.2.1 a.2.2.2.2.2.2 m_from0 m_kind0) FU (x5_50, m_rest, m_partFrom, m_partTo, m_partWord, m_partEnding, m_found)).bind fun (t_52, x5_52, m_rest_52, m_partFrom_52, m_partTo_52, m_partWord_52, m_partEnding_52, m_found_52) =>
    vl (x4 + 1) fun x4_78 =>
    some (0, (x4_78, m_rest_52, m_partFrom_52, m_partTo_52, m_partWord_52, m_partEnding_52, m_found_52))
def m_X9_eachFrom_28 (x1 : Int) (x2 : Int) (x3 : Int) (x4 : Int) (m_kind : Nat → Int) (m_itsClass : Nat → Int) (m_count : Nat → Int) (m_endClass : Nat → Int) (m_endPrice : Nat → Int) (m_words : Int) (m_endings : Int) (m_guess : Int) (m_base : Int) (m_steps : Nat → Int) (m_pairs : Nat → Int) (m_n : Int) (m_fixedMany : Int) (m_breaks : Nat → Int) (m_fixedFrom : Nat → Int) (m_fixedTo : Nat → Int) (m_fixedWord : Nat → Int) (m_fixedEnding : Nat → Int) (m_table : Nat → Int) (m_rest : Nat → Int) (m_parts : Int) (m_partFrom : Nat → Int) (m_partTo : Nat → Int) (m_partWord : Nat → Int) (m_partEnding : Nat → Int) (m_found : Int) (m_from0 : Int) (m_kind0 : Int) : Option (Nat × (Int × (Nat → Int) × (Nat → Int) × (Nat → Int) × (Nat → Int) × (Nat → Int) × Int)) :=
  gd (inI x3) <|
  if x3 = 60 then
    m_X9_eachFrom_44 x1 x2 x3 x4 x4 0 m_kind m_itsClass m_count m_endClass m_endPrice m_words m_endings m_guess m_base m_steps m_pairs m_n m_fixedMany m_breaks m_fixedFrom m_fixedTo m_fixedWord m_fixedEnding m_table m_rest m_parts m_partFrom m_partTo m_partWord m_partEnding m_found m_from0 m_kind0
  else
    m_X9_eachFrom_44 x1 x2 x3 x4 x4 m_endings m_kind m_itsClass m_count m_endClass m_endPrice m_words m_endings m_guess m_base m_steps m_pairs m_n m_fixedMany m_breaks m_fixedFrom m_fixedTo m_fixedWord m_fixedEnding m_table m_rest m_parts m_partFrom m_partTo m_partWord m_partEnding m_found m_from0 m_kind0
def m_X9_eachFrom_25 (x1 : Int) (x2 : Int) (x3 : Int) (m_kind : Nat → Int) (m_itsClass : Nat → Int) (m_count : Nat → Int) (m_endClass : Nat → Int) (m_endPrice : Nat → Int) (m_words : Int) (m_endings : Int) (m_guess : Int) (m_base : Int) (m_steps : Nat → Int) (m_pairs : Nat → Int) (m_n : Int) (m_fixedMany : Int) (m_breaks : Nat → Int) (m_fixedFrom : Nat → Int) (m_fixedTo : Nat → Int) (m_fixedWord : Nat → Int) (m_fixedEnding : Nat → Int) (m_table : Nat → Int) (m_rest : Nat → Int) (m_parts : Int) (m_partFrom : Nat → Int) (m_partTo : Nat → Int) (m_partWord : Nat → Int) (m_partEnding : Nat → Int) (m_found : Int) (m_from0 : Int) (m_kind0 : Int) : Option (Nat × (Int × (Nat → Int) × (Nat → Int) × (Nat → Int) × (Nat → Int) × (Nat → Int) × Int)) :=
  (zloop (fun a => m_X9_eachFrom_28 x1 x2 x3 a.1 m_kind m_itsClass m_count m_endClass m_endPrice m_words m_endings m_guess m_base m_steps m_pairs m_n m_fixedMany m_breaks m_fixedFrom m_fixedTo m_fixedWord m_fixedEnding m_table a.2.1 m_parts a.2.2.1 a.2.2.2.1 a.2.2.2.2.1 a.2.2.2.2.2.1 a.2.2.2.2.2.2 m_from0 m_kind0) FU ((-1), m_rest, m_partFrom, m_partTo, m_partWord, m_partEnding, m_found)).bind fun (t_28, x4_28, m_rest_28, m_partFrom_28, m_partTo_28, m_partWord_28, m_partEnding_28, m_found_28) =>
  vl (x3 + 1) fun x3_84_v2 =>
  some (0, (x3_84_v2, m_rest_28, m_partFrom_28, m_partTo_28, m_partWord_28, m_partEnding_28, m_found_28))
def m_X9_eachFrom_2 (x1 : Int) (x2 : Int) (x3 : Int) (m_kind : Nat → Int) (m_itsClass : Nat → Int) (m_count : Nat → Int) (m_endClass : Nat → Int) (m_endPrice : Nat → Int) (m_words : Int) (m_endings : Int) (m_guess : Int) (m_base : Int) (m_steps : Nat → Int) (m_pairs : Nat → Int) (m_n : Int) (m_fixedMany : Int) (m_breaks : Nat → Int) (m_fixedFrom : Nat → Int) (m_fixedTo : Nat → Int) (m_fixedWord : Nat → Int) (m_fixedEnding : Nat → Int) (m_table : Nat → Int) (m_rest : Nat → Int) (m_parts : Int) (m_partFrom : Nat → Int) (m_partTo : Nat → Int) (m_partWord : Nat → Int) (m_partEnding : Nat → Int) (m_found : Int) (m_from0 : Int) (m_kind0 : Int) : Option (Nat × (Int × (Nat → Int) × (Nat → Int) × (Nat → Int) × (Nat → Int) × (Nat → Int) × Int)) :=
  gd (inI x3) <|
  if 60 < x3 then
    some (1, (x3, m_rest, m_partFrom, m_partTo, m_partWord, m_partEnding, m_found))
  else
    gd (inI m_words) <|
    if x3 < m_words then
      m_X9_eachFrom_25 x1 x2 x3 m_kind m_itsClass m_count m_endClass m_endPrice m_words m_endings m_guess m_base m_steps m_pairs m_n m_fixedMany m_breaks m_fixedFrom m_fixedTo m_fixedWord m_fixedEnding m_table m_rest m_parts m_partFrom m_partTo m_partWord m_partEnding m_found m_from0 m_kind0
    else
      if 60 ≤ x3 then
        m_X9_eachFrom_25 x1 x2 x3 m_kind m_itsClass m_count m_endClass m_endPrice m_words m_endings m_guess m_base m_steps m_pairs m_n m_fixedMany m_breaks m_fixedFrom m_fixedTo m_fixedWord m_fixedEnding m_table m_rest m_parts m_partFrom m_partTo m_partWord m_partEnding m_found m_from0 m_kind0
      else
        vl (x3 + 1) fun x3_84 =>
        some (0, (x3_84, m_rest, m_partFrom, m_partTo, m_partWord, m_partEnding, m_found))
def m_X9_eachFrom (x1 : Int) (x2 : Int) (m_kind : Nat → Int) (m_itsClass : Nat → Int) (m_count : Nat → Int) (m_endClass : Nat → Int) (m_endPrice : Nat → Int) (m_words : Int) (m_endings : Int) (m_guess : Int) (m_base : Int) (m_steps : Nat → Int) (m_pairs : Nat → Int) (m_n : Int) (m_fixedMany : Int) (m_breaks : Nat → Int) (m_fixedFrom : Nat → Int) (m_fixedTo : Nat → Int) (m_fixedWord : Nat → Int) (m_fixedEnding : Nat → Int) (m_table : Nat → Int) (m_rest : Nat → Int) (m_parts : Int) (m_partFrom : Nat → Int) (m_partTo : Nat → Int) (m_partWord : Nat → Int) (m_partEnding : Nat → Int) (m_found : Int) (m_from0 : Int) (m_kind0 : Int) : Option ((Nat → Int) × (Nat → Int) × (Nat → Int) × (Nat → Int) × (Nat → Int) × Int) :=
  (zloop (fun a => m_X9_eachFrom_2 x1 x2 a.1 m_kind m_itsClass m_count m_endClass m_endPrice m_words m_endings m_guess m_base m_steps m_pairs m_n m_fixedMany m_breaks m_fixedFrom m_fixedTo m_fixedWord m_fixedEnding m_table a.2.1 m_parts a.2.2.1 a.2.2.2.1 a.2.2.2.2.1 a.2.2.2.2.2.1 a.2.2.2.2.2.2 m_from0 m_kind0) FU (0, m_rest, m_partFrom, m_partTo, m_partWord, m_partEnding, m_found)).bind fun (t_2, x3_2, m_rest_2, m_partFrom_2, m_partTo_2, m_partWord_2, m_partEnding_2, m_found_2) =>
  some (m_rest_2, m_partFrom_2, m_partTo_2, m_partWord_2, m_partEnding_2, m_found_2)
def m_X9_leastAhead_6 (x1 : Int) (x2 : Int) (x3 : Int) (x4 : Int) (m_steps : Nat → Int) (m_pairs : Nat → Int) (m_ahead : Nat → Int) : Option (Nat × (Int × Int)) :=
  gd (inI x4) <|
  if 9 < x4 then
    some (1, (x3, x4))
  else
    (m_X9_at x1 x4).bind fun r_20 =>
    gd (0 ≤ r_20 ∧ r_20 < 370) <|
    gd (inI (m_ahead (Int.toNat r_20))) <|
    if 134217728 ≤ (m_ahead (Int.toNat r_20)) then
      vl (x4 + 1) fun x4_53 =>
      some (0, (x3, x4_53))
    else
      (m_X9_at x1 x4).bind fun r_37 =>
      gd (0 ≤ r_37 ∧ r_37 < 370) <|
      (m_X9_stepOf x4 x2 m_steps m_pairs).bind fun r_45 =>
      gd (inI x3) <|
      gd (inI ((m_ahead (Int.toNat r_37)) + r_45)) <|
      vl (min x3 ((m_ahead (Int.toNat r_37)) + r_45)) fun x3_52 =>
      vl (x4 + 1) fun x4_53_v2 =>
      some (0, (x3_52, x4_53_v2))
def m_X9_leastAhead (x1 : Int) (x2 : Int) (m_steps : Nat → Int) (m_pairs : Nat → Int) (m_ahead : Nat → Int) : Option (Int) :=
  (zloop (fun a => m_X9_leastAhead_6 x1 x2 a.1 a.2 m_steps m_pairs m_ahead) FU (134217728, 0)).bind fun (t_6, x3_6, x4_6) =>
  some x3_6
def m_X9_goAhead (x1 : Int) (x2 : Int) (x3 : Int) (x4 : Int) (m_kind : Nat → Int) (m_itsClass : Nat → Int) (m_count : Nat → Int) (m_endClass : Nat → Int) (m_endPrice : Nat → Int) (m_guess : Int) (m_base : Int) (m_steps : Nat → Int) (m_pairs : Nat → Int) (m_n : Int) (m_fixedMany : Int) (m_breaks : Nat → Int) (m_fixedFrom : Nat → Int) (m_fixedTo : Nat → Int) (m_fixedWord : Nat → Int) (m_fixedEnding : Nat → Int) (m_table : Nat → Int) (m_ahead : Nat → Int) : Option ((Nat → Int)) :=
  (m_X9_costOf x1 x2 x3 x4 m_itsClass m_count m_endClass m_endPrice m_guess m_base m_table).bind fun r_6 =>
  gd (inI r_6) <|
  if 134217728 ≤ r_6 then
    some m_ahead
  else
    (m_X9_isAllowed x1 x2 x3 x4 m_n m_fixedMany m_breaks m_fixedFrom m_fixedTo m_fixedWord m_fixedEnding).bind fun r_24 =>
    gd (inI r_24) <|
    if r_24 = 0 then
      some m_ahead
    else
      (m_X9_kindOf x3 m_kind).bind fun r_35 =>
      (m_X9_leastAhead x1 r_35 m_steps m_pairs m_ahead).bind fun r_38 =>
      gd (inI r_38) <|
      if 134217728 ≤ r_38 then
        some m_ahead
      else
        (m_X9_kindOf x3 m_kind).bind fun r_57 =>
        (m_X9_at x2 r_57).bind fun r_60 =>
        (m_X9_kindOf x3 m_kind).bind fun r_70 =>
        (m_X9_at x2 r_70).bind fun r_73 =>
        gd (0 ≤ r_73 ∧ r_73 < 370) <|
        gd (inI (m_ahead (Int.toNat r_73))) <|
        gd (inI (r_38 + r_6)) <|
        gd (0 ≤ r_60 ∧ r_60 < 370) <|
        vl (uz m_ahead (Int.toNat r_60) (min (m_ahead (Int.toNat r_73)) (r_38 + r_6))) fun m_ahead_85 =>
        some m_ahead_85
def m_X9_readAhead_12 (x1 : Int) (x2 : Int) (m_kind : Nat → Int) (m_itsClass : Nat → Int) (m_count : Nat → Int) (m_endClass : Nat → Int) (m_endPrice : Nat → Int) (m_words : Int) (m_endings : Int) (m_guess : Int) (m_base : Int) (m_steps : Nat → Int) (m_pairs : Nat → Int) (m_n : Int) (m_fixedMany : Int) (m_breaks : Nat → Int) (m_fixedFrom : Nat → Int) (m_fixedTo : Nat → Int) (m_fixedWord : Nat → Int) (m_fixedEnding : Nat → Int) (m_table : Nat → Int) (m_ahead : Nat → Int) : Option (Nat × (Int × (Nat → Int))) :=
  gd (inI x2) <|
  if 9 < x2 then
    some (1, (x2, m_ahead))
  else
    (m_X9_at x1 x2).bind fun r_24 =>
    gd (inI x1) <|
    if x1 = 0 then
      if x2 = 9 then
        gd (0 ≤ r_24 ∧ r_24 < 370) <|
        vl (uz m_ahead (Int.toNat r_24) 0) fun m_ahead_43_v3 =>
        vl (x2 + 1) fun x2_44_v3 =>
        some (0, (x2_44_v3, m_ahead_43_v3))
      else
        gd (0 ≤ r_24 ∧ r_24 < 370) <|
        vl (uz m_ahead (Int.toNat r_24) 134217728) fun m_ahead_43_v2 =>
        vl (x2 + 1) fun x2_44_v2 =>
        some (0, (x2_44_v2, m_ahead_43_v2))
    else
      gd (0 ≤ r_24 ∧ r_24 < 370) <|
      vl (uz m_ahead (Int.toNat r_24) 134217728) fun m_ahead_43 =>
      vl (x2 + 1) fun x2_44 =>
      some (0, (x2_44, m_ahead_43))
def m_X9_readAhead_2 (x1 : Int) (m_kind : Nat → Int) (m_itsClass : Nat → Int) (m_count : Nat → Int) (m_endClass : Nat → Int) (m_endPrice : Nat → Int) (m_words : Int) (m_endings : Int) (m_guess : Int) (m_base : Int) (m_steps : Nat → Int) (m_pairs : Nat → Int) (m_n : Int) (m_fixedMany : Int) (m_breaks : Nat → Int) (m_fixedFrom : Nat → Int) (m_fixedTo : Nat → Int) (m_fixedWord : Nat → Int) (m_fixedEnding : Nat → Int) (m_table : Nat → Int) (m_ahead : Nat → Int) : Option (Nat × (Int × (Nat → Int))) :=
  gd (inI x1) <|
  gd (inI m_n) <|
  if m_n < x1 then
    some (1, (x1, m_ahead))
  else
    (zloop (fun a => m_X9_readAhead_12 x1 a.1 m_kind m_itsClass m_count m_endClass m_endPrice m_words m_endings m_guess m_base m_steps m_pairs m_n m_fixedMany m_breaks m_fixedFrom m_fixedTo m_fixedWord m_fixedEnding m_table a.2) FU (0, m_ahead)).bind fun (t_12, x2_12, m_ahead_12) =>
    vl (x1 + 1) fun x1_50 =>
    some (0, (x1_50, m_ahead_12))
def m_X9_readAhead_116 (x1 : Int) (x2 : Int) (x3 : Int) (x4 : Int) (m_kind : Nat → Int) (m_itsClass : Nat → Int) (m_count : Nat → Int) (m_endClass : Nat → Int) (m_endPrice : Nat → Int) (m_words : Int) (m_endings : Int) (m_guess : Int) (m_base : Int) (m_steps : Nat → Int) (m_pairs : Nat → Int) (m_n : Int) (m_fixedMany : Int) (m_breaks : Nat → Int) (m_fixedFrom : Nat → Int) (m_fixedTo : Nat → Int) (m_fixedWord : Nat → Int) (m_fixedEnding : Nat → Int) (m_table : Nat → Int) (m_ahead : Nat → Int) : Option (Nat × (Int × (Nat → Int))) :=
  gd (inI x4) <|
  gd (inI m_n) <|
  if m_n < x4 then
    some (1, (x4, m_ahead))
  else
    (m_X9_goAhead x1 x4 x2 x3 m_kind m_itsClass m_count m_endClass m_endPrice m_guess m_base m_steps m_pairs m_n m_fixedMany m_breaks m_fixedFrom m_fixedTo m_fixedWord m_fixedEnding m_table m_ahead).bind fun m_ahead_131 =>
    vl (x4 + 1) fun x4_134 =>
    some (0, (x4_134, m_ahead_131))
def m_X9_readAhead_108 (x1 : Int) (x2 : Int) (x3 : Int) (t0 : Int) (t1 : Int) (m_kind : Nat → Int) (m_itsClass : Nat → Int) (m_count : Nat → Int) (m_endClass : Nat → Int) (m_endPrice : Nat → Int) (m_words : Int) (m_endings : Int) (m_guess : Int) (m_base : Int) (m_steps : Nat → Int) (m_pairs : Nat → Int) (m_n : Int) (m_fixedMany : Int) (m_breaks : Nat → Int) (m_fixedFrom : Nat → Int) (m_fixedTo : Nat → Int) (m_fixedWord : Nat → Int) (m_fixedEnding : Nat → Int) (m_table : Nat → Int) (m_ahead : Nat → Int) : Option (Nat × (Int × (Nat → Int))) :=
  gd (inI t0) <|
  gd (inI t1) <|
  if t1 ≤ t0 then
    some (1, (x3, m_ahead))
  else
    vl (x1 + 1) fun x4_114 =>
    (zloop (fun a => m_X9_readAhead_116 x1 x2 x3 a.1 m_kind m_itsClass m_count m_endClass m_endPrice m_words m_endings m_guess m_base m_steps m_pairs m_n m_fixedMany m_breaks m_fixedFrom m_fixedTo m_fixedWord m_fixedEnding m_table a.2) FU (x4_114, m_ahead)).bind fun (t_116, x4_116, m_ahead_116) =>
    vl (x3 + 1) fun x3_140 =>
    some (0, (x3_140, m_ahead_116))
def m_X9_readAhead_93 (x1 : Int) (x2 : Int) (x3 : Int) (m_kind : Nat → Int) (m_itsClass : Nat → Int) (m_count : Nat → Int) (m_endClass : Nat → Int) (m_endPrice : Nat → Int) (m_words : Int) (m_endings : Int) (m_guess : Int) (m_base : Int) (m_steps : Nat → Int) (m_pairs : Nat → Int) (m_n : Int) (m_fixedMany : Int) (m_breaks : Nat → Int) (m_fixedFrom : Nat → Int) (m_fixedTo : Nat → Int) (m_fixedWord : Nat → Int) (m_fixedEnding : Nat → Int) (m_table : Nat → Int) (m_ahead : Nat → Int) : Option (Nat × (Int × (Nat → Int))) :=
  gd (inI x2) <|
  if x2 = 60 then
    m_X9_readAhead_108 x1 x2 x3 x3 0 m_kind m_itsClass m_count m_endClass m_endPrice m_words m_endings m_guess m_base m_steps m_pairs m_n m_fixedMany m_breaks m_fixedFrom m_fixedTo m_fixedWord m_fixedEnding m_table m_ahead
  else
    m_X9_readAhead_108 x1 x2 x3 x3 m_endings m_kind m_itsClass m_count m_endClass m_endPrice m_words m_endings m_guess m_base m_steps m_pairs m_n m_fixedMany m_breaks m_fixedFrom m_fixedTo m_fixedWord m_fixedEnding m_table m_ahead
def m_X9_readAhead_91 (x1 : Int) (x2 : Int) (m_kind : Nat → Int) (m_itsClass : Nat → Int) (m_count : Nat → Int) (m_endClass : Nat → Int) (m_endPrice : Nat → Int) (m_words : Int) (m_endings : Int) (m_guess : Int) (m_base : Int) (m_steps : Nat → Int) (m_pairs : Nat → Int) (m_n : Int) (m_fixedMany : Int) (m_breaks : Nat → Int) (m_fixedFrom : Nat → Int) (m_fixedTo : Nat → Int) (m_fixedWord : Nat → Int) (m_fixedEnding : Nat → Int) (m_table : Nat → Int) (m_ahead : Nat → Int) : Option (Nat × (Int × (Nat → Int))) :=
  (zloop (fun a => m_X9_readAhead_93 x1 x2 a.1 m_kind m_itsClass m_count m_endClass m_endPrice m_words m_endings m_guess m_base m_steps m_pairs m_n m_fixedMany m_breaks m_fixedFrom m_fixedTo m_fixedWord m_fixedEnding m_table a.2) FU ((-1), m_ahead)).bind fun (t_93, x3_93, m_ahead_93) =>
  vl (x2 + 1) fun x2_146_v2 =>
  some (0, (x2_146_v2, m_ahead_93))
def m_X9_readAhead_68 (x1 : Int) (x2 : Int) (m_kind : Nat → Int) (m_itsClass : Nat → Int) (m_count : Nat → Int) (m_endClass : Nat → Int) (m_endPrice : Nat → Int) (m_words : Int) (m_endings : Int) (m_guess : Int) (m_base : Int) (m_steps : Nat → Int) (m_pairs : Nat → Int) (m_n : Int) (m_fixedMany : Int) (m_breaks : Nat → Int) (m_fixedFrom : Nat → Int) (m_fixedTo : Nat → Int) (m_fixedWord : Nat → Int) (m_fixedEnding : Nat → Int) (m_table : Nat → Int) (m_ahead : Nat → Int) : Option (Nat × (Int × (Nat → Int))) :=
  gd (inI x2) <|
  if 60 < x2 then
    some (1, (x2, m_ahead))
  else
    gd (inI m_words) <|
    if x2 < m_words then
      m_X9_readAhead_91 x1 x2 m_kind m_itsClass m_count m_endClass m_endPrice m_words m_endings m_guess m_base m_steps m_pairs m_n m_fixedMany m_breaks m_fixedFrom m_fixedTo m_fixedWord m_fixedEnding m_table m_ahead
    else
      if 60 ≤ x2 then
        m_X9_readAhead_91 x1 x2 m_kind m_itsClass m_count m_endClass m_endPrice m_words m_endings m_guess m_base m_steps m_pairs m_n m_fixedMany m_breaks m_fixedFrom m_fixedTo m_fixedWord m_fixedEnding m_table m_ahead
      else
        vl (x2 + 1) fun x2_146 =>
        some (0, (x2_146, m_ahead))
def m_X9_readAhead_58 (x1 : Int) (m_kind : Nat → Int) (m_itsClass : Nat → Int) (m_count : Nat → Int) (m_endClass : Nat → Int) (m_endPrice : Nat → Int) (m_words : Int) (m_endings : Int) (m_guess : Int) (m_base : Int) (m_steps : Nat → Int) (m_pairs : Nat → Int) (m_n : Int) (m_fixedMany : Int) (m_breaks : Nat → Int) (m_fixedFrom : Nat → Int) (m_fixedTo : Nat → Int) (m_fixedWord : Nat → Int) (m_fixedEnding : Nat → Int) (m_table : Nat → Int) (m_ahead : Nat → Int) : Option (Nat × (Int × (Nat → Int))) :=
  gd (inI x1) <|
  gd (inI m_n) <|
  if m_n ≤ x1 then
    some (1, (x1, m_ahead))
  else
    (zloop (fun a => m_X9_readAhead_68 x1 a.1 m_kind m_itsClass m_count m_endClass m_endPrice m_words m_endings m_guess m_base m_steps m_pairs m_n m_fixedMany m_breaks m_fixedFrom m_fixedTo m_fixedWord m_fixedEnding m_table a.2) FU (0, m_ahead)).bind fun (t_68, x2_68, m_ahead_68) =>
    vl (x1 + 1) fun x1_152 =>
    some (0, (x1_152, m_ahead_68))
def m_X9_readAhead (m_kind : Nat → Int) (m_itsClass : Nat → Int) (m_count : Nat → Int) (m_endClass : Nat → Int) (m_endPrice : Nat → Int) (m_words : Int) (m_endings : Int) (m_guess : Int) (m_base : Int) (m_steps : Nat → Int) (m_pairs : Nat → Int) (m_n : Int) (m_fixedMany : Int) (m_breaks : Nat → Int) (m_fixedFrom : Nat → Int) (m_fixedTo : Nat → Int) (m_fixedWord : Nat → Int) (m_fixedEnding : Nat → Int) (m_table : Nat → Int) (m_ahead : Nat → Int) : Option ((Nat → Int)) :=
  (zloop (fun a => m_X9_readAhead_2 a.1 m_kind m_itsClass m_count m_endClass m_endPrice m_words m_endings m_guess m_base m_steps m_pairs m_n m_fixedMany m_breaks m_fixedFrom m_fixedTo m_fixedWord m_fixedEnding m_table a.2) FU (0, m_ahead)).bind fun (t_2, x1_2, m_ahead_2) =>
  (zloop (fun a => m_X9_readAhead_58 a.1 m_kind m_itsClass m_count m_endClass m_endPrice m_words m_endings m_guess m_base m_steps m_pairs m_n m_fixedMany m_breaks m_fixedFrom m_fixedTo m_fixedWord m_fixedEnding m_table a.2) FU (0, m_ahead_2)).bind fun (t_58, x1_58, m_ahead_58) =>
  some m_ahead_58
def m_X9_read_31 (x1 : Int) (m_spellMany : Nat → Int) (m_spellPrice : Nat → Int) (m_spell : Nat → Int) (m_sounds : Nat → Int) (m_endSounds : Nat → Int) (m_kind : Nat → Int) (m_itsClass : Nat → Int) (m_count : Nat → Int) (m_endClass : Nat → Int) (m_endPrice : Nat → Int) (m_words : Int) (m_endings : Int) (m_slip : Int) (m_guess : Int) (m_base : Int) (m_steps : Nat → Int) (m_pairs : Nat → Int) (m_n : Int) (m_fixedMany : Int) (m_line : Nat → Int) (m_breaks : Nat → Int) (m_fixedFrom : Nat → Int) (m_fixedTo : Nat → Int) (m_fixedWord : Nat → Int) (m_fixedEnding : Nat → Int) (m_isRead : Int) (m_isMade : Int) (m_table : Nat → Int) (m_reach : Nat → Int) (m_next : Nat → Int) (m_rest : Nat → Int) (m_ahead : Nat → Int) (m_parts : Int) (m_total : Int) (m_partFrom : Nat → Int) (m_partTo : Nat → Int) (m_partWord : Nat → Int) (m_partEnding : Nat → Int) (m_found : Int) (m_from0 : Int) (m_kind0 : Int) : Option (Nat × (Int × (Nat → Int))) :=
  gd (inI x1) <|
  if 9 < x1 then
    some (1, (x1, m_rest))
  else
    (m_X9_at m_n x1).bind fun r_46 =>
    gd (0 ≤ r_46 ∧ r_46 < 370) <|
    vl (uz m_rest (Int.toNat r_46) 0) fun m_rest_50 =>
    vl (x1 + 1) fun x1_51 =>
    some (0, (x1_51, m_rest_50))
def m_X9_read_70 (x1 : Int) (x2 : Int) (m_spellMany : Nat → Int) (m_spellPrice : Nat → Int) (m_spell : Nat → Int) (m_sounds : Nat → Int) (m_endSounds : Nat → Int) (m_kind : Nat → Int) (m_itsClass : Nat → Int) (m_count : Nat → Int) (m_endClass : Nat → Int) (m_endPrice : Nat → Int) (m_words : Int) (m_endings : Int) (m_slip : Int) (m_guess : Int) (m_base : Int) (m_steps : Nat → Int) (m_pairs : Nat → Int) (m_n : Int) (m_fixedMany : Int) (m_line : Nat → Int) (m_breaks : Nat → Int) (m_fixedFrom : Nat → Int) (m_fixedTo : Nat → Int) (m_fixedWord : Nat → Int) (m_fixedEnding : Nat → Int) (m_isRead : Int) (m_isMade : Int) (m_table : Nat → Int) (m_reach : Nat → Int) (m_next : Nat → Int) (m_rest : Nat → Int) (m_ahead : Nat → Int) (m_parts : Int) (m_total : Int) (m_partFrom : Nat → Int) (m_partTo : Nat → Int) (m_partWord : Nat → Int) (m_partEnding : Nat → Int) (m_found : Int) (m_from0 : Int) (m_kind0 : Int) : Option (Nat × (Int × (Nat → Int))) :=
  gd (inI x2) <|
  if 9 < x2 then
    some (1, (x2, m_rest))
  else
    (m_X9_at x1 x2).bind fun r_82 =>
    gd (0 ≤ r_82 ∧ r_82 < 370) <|
    vl (uz m_rest (Int.toNat r_82) 134217728) fun m_rest_87 =>
    vl (x2 + 1) fun x2_88 =>
    some (0, (x2_88, m_rest_87))
def m_X9_read_64 (x1 : Int) (m_spellMany : Nat → Int) (m_spellPrice : Nat → Int) (m_spell : Nat → Int) (m_sounds : Nat → Int) (m_endSounds : Nat → Int) (m_kind : Nat → Int) (m_itsClass : Nat → Int) (m_count : Nat → Int) (m_endClass : Nat → Int) (m_endPrice : Nat → Int) (m_words : Int) (m_endings : Int) (m_slip : Int) (m_guess : Int) (m_base : Int) (m_steps : Nat → Int) (m_pairs : Nat → Int) (m_n : Int) (m_fixedMany : Int) (m_line : Nat → Int) (m_breaks : Nat → Int) (m_fixedFrom : Nat → Int) (m_fixedTo : Nat → Int) (m_fixedWord : Nat → Int) (m_fixedEnding : Nat → Int) (m_isRead : Int) (m_isMade : Int) (m_table : Nat → Int) (m_reach : Nat → Int) (m_next : Nat → Int) (m_rest : Nat → Int) (m_ahead : Nat → Int) (m_parts : Int) (m_total : Int) (m_partFrom : Nat → Int) (m_partTo : Nat → Int) (m_partWord : Nat → Int) (m_partEnding : Nat → Int) (m_found : Int) (m_from0 : Int) (m_kind0 : Int) : Option (Nat × (Int × (Nat → Int) × (Nat → Int) × (Nat → Int) × (Nat → Int) × (Nat → Int) × Int)) :=
  gd (inI x1) <|
  if x1 < 0 then
    some (1, (x1, m_rest, m_partFrom, m_partTo, m_partWord, m_partEnding, m_found))
  else
    (zloop (fun a => m_X9_read_70 x1 a.1 m_spellMany m_spellPrice m_spell m_sounds m_endSounds m_kind m_itsClass m_count m_endClass m_endPrice m_words m_endings m_slip m_guess m_base m_steps m_pairs m_n m_fixedMany m_line m_breaks m_fixedFrom m_fixedTo m_fixedWord m_fixedEnding m_isRead m_isMade m_table m_reach m_next a.2 m_ahead m_parts m_total m_partFrom m_partTo m_partWord m_partEnding m_found m_from0 m_kind0) FU (0, m_rest)).bind fun (t_70, x2_70, m_rest_70) =>
    (m_X9_eachFrom x1 0 m_kind m_itsClass m_count m_endClass m_endPrice m_words m_endings m_guess m_base m_steps m_pairs m_n m_fixedMany m_breaks m_fixedFrom m_fixedTo m_fixedWord m_fixedEnding m_table m_rest_70 m_parts m_partFrom m_partTo m_partWord m_partEnding m_found m_from0 m_kind0).bind fun (m_rest_97, m_partFrom_97, m_partTo_97, m_partWord_97, m_partEnding_97, m_found_97) =>
    vl (x1 + (-1)) fun x1_100 =>
    some (0, (x1_100, m_rest_97, m_partFrom_97, m_partTo_97, m_partWord_97, m_partEnding_97, m_found_97))
def m_X9_read_131 (x1 : Int) (x2 : Int) (m_spellMany : Nat → Int) (m_spellPrice : Nat → Int) (m_spell : Nat → Int) (m_sounds : Nat → Int) (m_endSounds : Nat → Int) (m_kind : Nat → Int) (m_itsClass : Nat → Int) (m_count : Nat → Int) (m_endClass : Nat → Int) (m_endPrice : Nat → Int) (m_words : Int) (m_endings : Int) (m_slip : Int) (m_guess : Int) (m_base : Int) (m_steps : Nat → Int) (m_pairs : Nat → Int) (m_n : Int) (m_fixedMany : Int) (m_line : Nat → Int) (m_breaks : Nat → Int) (m_fixedFrom : Nat → Int) (m_fixedTo : Nat → Int) (m_fixedWord : Nat → Int) (m_fixedEnding : Nat → Int) (m_isRead : Int) (m_isMade : Int) (m_table : Nat → Int) (m_reach : Nat → Int) (m_next : Nat → Int) (m_rest : Nat → Int) (m_ahead : Nat → Int) (m_parts : Int) (m_total : Int) (m_partFrom : Nat → Int) (m_partTo : Nat → Int) (m_partWord : Nat → Int) (m_partEnding : Nat → Int) (m_found : Int) (m_from0 : Int) (m_kind0 : Int) : Option (Nat × (Int × Int × (Nat → Int) × Int × (Nat → Int) × (Nat → Int) × (Nat → Int) × (Nat → Int) × Int × Int × Int)) :=
  gd (inI m_total) <|
  if 134217728 ≤ m_total then
    some (1, (x1, x2, m_rest, m_parts, m_partFrom, m_partTo, m_partWord, m_partEnding, m_found, m_from0, m_kind0))
  else
    gd (inI x1) <|
    gd (inI m_n) <|
    if m_n ≤ x1 then
      some (1, (x1, x2, m_rest, m_parts, m_partFrom, m_partTo, m_partWord, m_partEnding, m_found, m_from0, m_kind0))
    else
      (m_X9_eachFrom x1 1 m_kind m_itsClass m_count m_endClass m_endPrice m_words m_endings m_guess m_base m_steps m_pairs m_n m_fixedMany m_breaks m_fixedFrom m_fixedTo m_fixedWord m_fixedEnding m_table m_rest m_parts m_partFrom m_partTo m_partWord m_partEnding 0 x1 x2).bind fun (m_rest_166, m_partFrom_166, m_partTo_166, m_partWord_166, m_partEnding_166, m_found_166) =>
      gd (0 ≤ m_parts ∧ m_parts < 36) <|
      vl (m_partTo_166 (Int.toNat m_parts)) fun x1_178 =>
      gd (0 ≤ m_parts ∧ m_parts < 36) <|
      (m_X9_kindOf (m_partWord_166 (Int.toNat m_parts)) m_kind).bind fun r_189 =>
      vl (m_parts + 1) fun m_parts_200 =>
      some (0, (x1_178, r_189, m_rest_166, m_parts_200, m_partFrom_166, m_partTo_166, m_partWord_166, m_partEnding_166, m_found_166, x1, x2))
def m_X9_read_206 (m_spellMany : Nat → Int) (m_spellPrice : Nat → Int) (m_spell : Nat → Int) (m_sounds : Nat → Int) (m_endSounds : Nat → Int) (m_kind : Nat → Int) (m_itsClass : Nat → Int) (m_count : Nat → Int) (m_endClass : Nat → Int) (m_endPrice : Nat → Int) (m_words : Int) (m_endings : Int) (m_slip : Int) (m_guess : Int) (m_base : Int) (m_steps : Nat → Int) (m_pairs : Nat → Int) (m_n : Int) (m_fixedMany : Int) (m_line : Nat → Int) (m_breaks : Nat → Int) (m_fixedFrom : Nat → Int) (m_fixedTo : Nat → Int) (m_fixedWord : Nat → Int) (m_fixedEnding : Nat → Int) (m_isRead : Int) (m_isMade : Int) (m_table : Nat → Int) (m_reach : Nat → Int) (m_next : Nat → Int) (m_rest : Nat → Int) (m_ahead : Nat → Int) (m_parts : Int) (m_total : Int) (m_partFrom : Nat → Int) (m_partTo : Nat → Int) (m_partWord : Nat → Int) (m_partEnding : Nat → Int) (m_found : Int) (m_from0 : Int) (m_kind0 : Int) : Option (Int × Int × (Nat → Int) × (Nat → Int) × (Nat → Int) × (Nat → Int) × (Nat → Int) × Int × Int × (Nat → Int) × (Nat → Int) × (Nat → Int) × (Nat → Int) × Int × Int × Int) :=
  (m_X9_readAhead m_kind m_itsClass m_count m_endClass m_endPrice m_words m_endings m_guess m_base m_steps m_pairs m_n m_fixedMany m_breaks m_fixedFrom m_fixedTo m_fixedWord m_fixedEnding m_table m_ahead).bind fun m_ahead_207 =>
  some (m_isRead, m_isMade, m_table, m_reach, m_next, m_rest, m_ahead_207, m_parts, m_total, m_partFrom, m_partTo, m_partWord, m_partEnding, m_found, m_from0, m_kind0)
def m_X9_read_24 (m_spellMany : Nat → Int) (m_spellPrice : Nat → Int) (m_spell : Nat → Int) (m_sounds : Nat → Int) (m_endSounds : Nat → Int) (m_kind : Nat → Int) (m_itsClass : Nat → Int) (m_count : Nat → Int) (m_endClass : Nat → Int) (m_endPrice : Nat → Int) (m_words : Int) (m_endings : Int) (m_slip : Int) (m_guess : Int) (m_base : Int) (m_steps : Nat → Int) (m_pairs : Nat → Int) (m_n : Int) (m_fixedMany : Int) (m_line : Nat → Int) (m_breaks : Nat → Int) (m_fixedFrom : Nat → Int) (m_fixedTo : Nat → Int) (m_fixedWord : Nat → Int) (m_fixedEnding : Nat → Int) (m_isRead : Int) (m_isMade : Int) (m_table : Nat → Int) (m_reach : Nat → Int) (m_next : Nat → Int) (m_rest : Nat → Int) (m_ahead : Nat → Int) (m_parts : Int) (m_total : Int) (m_partFrom : Nat → Int) (m_partTo : Nat → Int) (m_partWord : Nat → Int) (m_partEnding : Nat → Int) (m_found : Int) (m_from0 : Int) (m_kind0 : Int) : Option (Int × Int × (Nat → Int) × (Nat → Int) × (Nat → Int) × (Nat → Int) × (Nat → Int) × Int × Int × (Nat → Int) × (Nat → Int) × (Nat → Int) × (Nat → Int) × Int × Int × Int) :=
  (zloop (fun a => m_X9_read_31 a.1 m_spellMany m_spellPrice m_spell m_sounds m_endSounds m_kind m_itsClass m_count m_endClass m_endPrice m_words m_endings m_slip m_guess m_base m_steps m_pairs m_n m_fixedMany m_line m_breaks m_fixedFrom m_fixedTo m_fixedWord m_fixedEnding m_isRead 1 m_table m_reach m_next a.2 m_ahead m_parts m_total m_partFrom m_partTo m_partWord m_partEnding m_found m_from0 m_kind0) FU (0, m_rest)).bind fun (t_31, x1_31, m_rest_31) =>
  vl (m_n - 1) fun x1_63 =>
  (zloop (fun a => m_X9_read_64 a.1 m_spellMany m_spellPrice m_spell m_sounds m_endSounds m_kind m_itsClass m_count m_endClass m_endPrice m_words m_endings m_slip m_guess m_base m_steps m_pairs m_n m_fixedMany m_line m_breaks m_fixedFrom m_fixedTo m_fixedWord m_fixedEnding m_isRead 1 m_table m_reach m_next a.2.1 m_ahead m_parts m_total a.2.2.1 a.2.2.2.1 a.2.2.2.2.1 a.2.2.2.2.2.1 a.2.2.2.2.2.2 m_from0 m_kind0) FU (x1_63, m_rest_31, m_partFrom, m_partTo, m_partWord, m_partEnding, m_found)).bind fun (t_64, x1_64, m_rest_64, m_partFrom_64, m_partTo_64, m_partWord_64, m_partEnding_64, m_found_64) =>
  (m_X9_at 0 9).bind fun r_114 =>
  gd (0 ≤ r_114 ∧ r_114 < 370) <|
  vl (m_rest_64 (Int.toNat r_114)) fun m_total_118 =>
  (zloop (fun a => m_X9_read_131 a.1 a.2.1 m_spellMany m_spellPrice m_spell m_sounds m_endSounds m_kind m_itsClass m_count m_endClass m_endPrice m_words m_endings m_slip m_guess m_base m_steps m_pairs m_n m_fixedMany m_line m_breaks m_fixedFrom m_fixedTo m_fixedWord m_fixedEnding m_isRead 1 m_table m_reach m_next a.2.2.1 m_ahead a.2.2.2.1 m_total_118 a.2.2.2.2.1 a.2.2.2.2.2.1 a.2.2.2.2.2.2.1 a.2.2.2.2.2.2.2.1 a.2.2.2.2.2.2.2.2.1 a.2.2.2.2.2.2.2.2.2.1 a.2.2.2.2.2.2.2.2.2.2) FU (0, 9, m_rest_64, 0, m_partFrom_64, m_partTo_64, m_partWord_64, m_partEnding_64, m_found_64, m_from0, m_kind0)).bind fun (t_131, x1_131, x2_131, m_rest_131, m_parts_131, m_partFrom_131, m_partTo_131, m_partWord_131, m_partEnding_131, m_found_131, m_from0_131, m_kind0_131) =>
  m_X9_read_206 m_spellMany m_spellPrice m_spell m_sounds m_endSounds m_kind m_itsClass m_count m_endClass m_endPrice m_words m_endings m_slip m_guess m_base m_steps m_pairs m_n m_fixedMany m_line m_breaks m_fixedFrom m_fixedTo m_fixedWord m_fixedEnding m_isRead 1 m_table m_reach m_next m_rest_131 m_ahead m_parts_131 m_total_118 m_partFrom_131 m_partTo_131 m_partWord_131 m_partEnding_131 m_found_131 m_from0_131 m_kind0_131
def m_X9_read (m_spellMany : Nat → Int) (m_spellPrice : Nat → Int) (m_spell : Nat → Int) (m_sounds : Nat → Int) (m_endSounds : Nat → Int) (m_kind : Nat → Int) (m_itsClass : Nat → Int) (m_count : Nat → Int) (m_endClass : Nat → Int) (m_endPrice : Nat → Int) (m_words : Int) (m_endings : Int) (m_slip : Int) (m_guess : Int) (m_base : Int) (m_steps : Nat → Int) (m_pairs : Nat → Int) (m_n : Int) (m_fixedMany : Int) (m_line : Nat → Int) (m_breaks : Nat → Int) (m_fixedFrom : Nat → Int) (m_fixedTo : Nat → Int) (m_fixedWord : Nat → Int) (m_fixedEnding : Nat → Int) (m_isRead : Int) (m_isMade : Int) (m_table : Nat → Int) (m_reach : Nat → Int) (m_next : Nat → Int) (m_rest : Nat → Int) (m_ahead : Nat → Int) (m_parts : Int) (m_total : Int) (m_partFrom : Nat → Int) (m_partTo : Nat → Int) (m_partWord : Nat → Int) (m_partEnding : Nat → Int) (m_found : Int) (m_from0 : Int) (m_kind0 : Int) : Option (Int × Int × (Nat → Int) × (Nat → Int) × (Nat → Int) × (Nat → Int) × (Nat → Int) × Int × Int × (Nat → Int) × (Nat → Int) × (Nat → Int) × (Nat → Int) × Int × Int × Int) :=
  gd (inI m_isRead) <|
  if m_isRead = 0 then
    gd (inI m_isMade) <|
    if m_isMade = 0 then
      (m_X9_makeTable m_spellMany m_spellPrice m_spell m_sounds m_endSounds m_itsClass m_endClass m_words m_endings m_slip m_n m_line m_table m_reach m_next).bind fun (m_table_21, m_reach_21, m_next_21) =>
      m_X9_read_24 m_spellMany m_spellPrice m_spell m_sounds m_endSounds m_kind m_itsClass m_count m_endClass m_endPrice m_words m_endings m_slip m_guess m_base m_steps m_pairs m_n m_fixedMany m_line m_breaks m_fixedFrom m_fixedTo m_fixedWord m_fixedEnding 1 m_isMade m_table_21 m_reach_21 m_next_21 m_rest m_ahead m_parts m_total m_partFrom m_partTo m_partWord m_partEnding m_found m_from0 m_kind0
    else
      m_X9_read_24 m_spellMany m_spellPrice m_spell m_sounds m_endSounds m_kind m_itsClass m_count m_endClass m_endPrice m_words m_endings m_slip m_guess m_base m_steps m_pairs m_n m_fixedMany m_line m_breaks m_fixedFrom m_fixedTo m_fixedWord m_fixedEnding 1 m_isMade m_table m_reach m_next m_rest m_ahead m_parts m_total m_partFrom m_partTo m_partWord m_partEnding m_found m_from0 m_kind0
  else
    some (m_isRead, m_isMade, m_table, m_reach, m_next, m_rest, m_ahead, m_parts, m_total, m_partFrom, m_partTo, m_partWord, m_partEnding, m_found, m_from0, m_kind0)
def m_X9_copyAct_26 (x1 : Int) (x2 : Int) (x3 : Int) (m_oldN : Nat → Int) (m_oldFixed : Nat → Int) (m_oldLine : Nat → Int) (m_oldBreaks : Nat → Int) (m_oldFrom : Nat → Int) (m_oldTo : Nat → Int) (m_oldWord : Nat → Int) (m_oldEnding : Nat → Int) : Option (Nat × (Int × (Nat → Int) × (Nat → Int) × (Nat → Int) × (Nat → Int) × (Nat → Int))) :=
  gd (inI x3) <|
  if 36 ≤ x3 then
    some (1, (x3, m_oldLine, m_oldFrom, m_oldTo, m_oldWord, m_oldEnding))
  else
    gd (0 ≤ ((36 * x1) + x3) ∧ ((36 * x1) + x3) < 2880) <|
    gd (0 ≤ ((36 * x2) + x3) ∧ ((36 * x2) + x3) < 2880) <|
    vl (uz m_oldLine (Int.toNat ((36 * x2) + x3)) (m_oldLine (Int.toNat ((36 * x1) + x3)))) fun m_oldLine_53 =>
    gd (0 ≤ ((36 * x1) + x3) ∧ ((36 * x1) + x3) < 2880) <|
    gd (0 ≤ ((36 * x2) + x3) ∧ ((36 * x2) + x3) < 2880) <|
    vl (uz m_oldFrom (Int.toNat ((36 * x2) + x3)) (m_oldFrom (Int.toNat ((36 * x1) + x3)))) fun m_oldFrom_75 =>
    gd (0 ≤ ((36 * x1) + x3) ∧ ((36 * x1) + x3) < 2880) <|
    gd (0 ≤ ((36 * x2) + x3) ∧ ((36 * x2) + x3) < 2880) <|
    vl (uz m_oldTo (Int.toNat ((36 * x2) + x3)) (m_oldTo (Int.toNat ((36 * x1) + x3)))) fun m_oldTo_97 =>
    gd (0 ≤ ((36 * x1) + x3) ∧ ((36 * x1) + x3) < 2880) <|
    gd (0 ≤ ((36 * x2) + x3) ∧ ((36 * x2) + x3) < 2880) <|
    vl (uz m_oldWord (Int.toNat ((36 * x2) + x3)) (m_oldWord (Int.toNat ((36 * x1) + x3)))) fun m_oldWord_119 =>
    gd (0 ≤ ((36 * x1) + x3) ∧ ((36 * x1) + x3) < 2880) <|
    gd (0 ≤ ((36 * x2) + x3) ∧ ((36 * x2) + x3) < 2880) <|
    vl (uz m_oldEnding (Int.toNat ((36 * x2) + x3)) (m_oldEnding (Int.toNat ((36 * x1) + x3)))) fun m_oldEnding_141 =>
    vl (x3 + 1) fun x3_142 =>
    some (0, (x3_142, m_oldLine_53, m_oldFrom_75, m_oldTo_97, m_oldWord_119, m_oldEnding_141))
def m_X9_copyAct_150 (x1 : Int) (x2 : Int) (x3 : Int) (m_oldN : Nat → Int) (m_oldFixed : Nat → Int) (m_oldLine : Nat → Int) (m_oldBreaks : Nat → Int) (m_oldFrom : Nat → Int) (m_oldTo : Nat → Int) (m_oldWord : Nat → Int) (m_oldEnding : Nat → Int) : Option (Nat × (Int × (Nat → Int))) :=
  gd (inI x3) <|
  if 36 < x3 then
    some (1, (x3, m_oldBreaks))
  else
    gd (0 ≤ ((37 * x1) + x3) ∧ ((37 * x1) + x3) < 2960) <|
    gd (0 ≤ ((37 * x2) + x3) ∧ ((37 * x2) + x3) < 2960) <|
    vl (uz m_oldBreaks (Int.toNat ((37 * x2) + x3)) (m_oldBreaks (Int.toNat ((37 * x1) + x3)))) fun m_oldBreaks_177 =>
    vl (x3 + 1) fun x3_178 =>
    some (0, (x3_178, m_oldBreaks_177))
def m_X9_copyAct (x1 : Int) (x2 : Int) (m_oldN : Nat → Int) (m_oldFixed : Nat → Int) (m_oldLine : Nat → Int) (m_oldBreaks : Nat → Int) (m_oldFrom : Nat → Int) (m_oldTo : Nat → Int) (m_oldWord : Nat → Int) (m_oldEnding : Nat → Int) : Option ((Nat → Int) × (Nat → Int) × (Nat → Int) × (Nat → Int) × (Nat → Int) × (Nat → Int) × (Nat → Int) × (Nat → Int)) :=
  gd (0 ≤ x1 ∧ x1 < 80) <|
  gd (0 ≤ x2 ∧ x2 < 80) <|
  vl (uz m_oldN (Int.toNat x2) (m_oldN (Int.toNat x1))) fun m_oldN_11 =>
  gd (0 ≤ x1 ∧ x1 < 80) <|
  gd (0 ≤ x2 ∧ x2 < 80) <|
  vl (uz m_oldFixed (Int.toNat x2) (m_oldFixed (Int.toNat x1))) fun m_oldFixed_23 =>
  (zloop (fun a => m_X9_copyAct_26 x1 x2 a.1 m_oldN_11 m_oldFixed_23 a.2.1 m_oldBreaks a.2.2.1 a.2.2.2.1 a.2.2.2.2.1 a.2.2.2.2.2) FU (0, m_oldLine, m_oldFrom, m_oldTo, m_oldWord, m_oldEnding)).bind fun (t_26, x3_26, m_oldLine_26, m_oldFrom_26, m_oldTo_26, m_oldWord_26, m_oldEnding_26) =>
  (zloop (fun a => m_X9_copyAct_150 x1 x2 a.1 m_oldN_11 m_oldFixed_23 m_oldLine_26 a.2 m_oldFrom_26 m_oldTo_26 m_oldWord_26 m_oldEnding_26) FU (0, m_oldBreaks)).bind fun (t_150, x3_150, m_oldBreaks_150) =>
  some (m_oldN_11, m_oldFixed_23, m_oldLine_26, m_oldBreaks_150, m_oldFrom_26, m_oldTo_26, m_oldWord_26, m_oldEnding_26)
def m_X9_act_16 (x1 : Int) (m_n : Int) (m_fixedMany : Int) (m_line : Nat → Int) (m_breaks : Nat → Int) (m_fixedFrom : Nat → Int) (m_fixedTo : Nat → Int) (m_fixedWord : Nat → Int) (m_fixedEnding : Nat → Int) (m_acts : Int) (m_oldN : Nat → Int) (m_oldFixed : Nat → Int) (m_oldLine : Nat → Int) (m_oldBreaks : Nat → Int) (m_oldFrom : Nat → Int) (m_oldTo : Nat → Int) (m_oldWord : Nat → Int) (m_oldEnding : Nat → Int) (m_isRead : Int) : Option (Nat × (Int × (Nat → Int) × (Nat → Int) × (Nat → Int) × (Nat → Int) × (Nat → Int) × (Nat → Int) × (Nat → Int) × (Nat → Int))) :=
  gd (inI (x1 + 1)) <|
  if 80 ≤ (x1 + 1) then
    some (1, (x1, m_oldN, m_oldFixed, m_oldLine, m_oldBreaks, m_oldFrom, m_oldTo, m_oldWord, m_oldEnding))
  else
    (m_X9_copyAct (x1 + 1) x1 m_oldN m_oldFixed m_oldLine m_oldBreaks m_oldFrom m_oldTo m_oldWord m_oldEnding).bind fun (m_oldN_29, m_oldFixed_29, m_oldLine_29, m_oldBreaks_29, m_oldFrom_29, m_oldTo_29, m_oldWord_29, m_oldEnding_29) =>
    vl (x1 + 1) fun x1_32 =>
    some (0, (x1_32, m_oldN_29, m_oldFixed_29, m_oldLine_29, m_oldBreaks_29, m_oldFrom_29, m_oldTo_29, m_oldWord_29, m_oldEnding_29))
def m_X9_act_76 (x1 : Int) (m_n : Int) (m_fixedMany : Int) (m_line : Nat → Int) (m_breaks : Nat → Int) (m_fixedFrom : Nat → Int) (m_fixedTo : Nat → Int) (m_fixedWord : Nat → Int) (m_fixedEnding : Nat → Int) (m_acts : Int) (m_oldN : Nat → Int) (m_oldFixed : Nat → Int) (m_oldLine : Nat → Int) (m_oldBreaks : Nat → Int) (m_oldFrom : Nat → Int) (m_oldTo : Nat → Int) (m_oldWord : Nat → Int) (m_oldEnding : Nat → Int) (m_isRead : Int) : Option (Nat × (Int × (Nat → Int) × (Nat → Int) × (Nat → Int) × (Nat → Int) × (Nat → Int))) :=
  gd (inI x1) <|
  if 36 ≤ x1 then
    some (1, (x1, m_oldLine, m_oldFrom, m_oldTo, m_oldWord, m_oldEnding))
  else
    gd (0 ≤ x1 ∧ x1 < 36) <|
    gd (0 ≤ ((36 * m_acts) + x1) ∧ ((36 * m_acts) + x1) < 2880) <|
    vl (uz m_oldLine (Int.toNat ((36 * m_acts) + x1)) (m_line (Int.toNat x1))) fun m_oldLine_101 =>
    gd (0 ≤ x1 ∧ x1 < 36) <|
    gd (0 ≤ ((36 * m_acts) + x1) ∧ ((36 * m_acts) + x1) < 2880) <|
    vl (uz m_oldFrom (Int.toNat ((36 * m_acts) + x1)) (m_fixedFrom (Int.toNat x1))) fun m_oldFrom_121 =>
    gd (0 ≤ x1 ∧ x1 < 36) <|
    gd (0 ≤ ((36 * m_acts) + x1) ∧ ((36 * m_acts) + x1) < 2880) <|
    vl (uz m_oldTo (Int.toNat ((36 * m_acts) + x1)) (m_fixedTo (Int.toNat x1))) fun m_oldTo_141 =>
    gd (0 ≤ x1 ∧ x1 < 36) <|
    gd (0 ≤ ((36 * m_acts) + x1) ∧ ((36 * m_acts) + x1) < 2880) <|
    vl (uz m_oldWord (Int.toNat ((36 * m_acts) + x1)) (m_fixedWord (Int.toNat x1))) fun m_oldWord_161 =>
    gd (0 ≤ x1 ∧ x1 < 36) <|
    gd (0 ≤ ((36 * m_acts) + x1) ∧ ((36 * m_acts) + x1) < 2880) <|
    vl (uz m_oldEnding (Int.toNat ((36 * m_acts) + x1)) (m_fixedEnding (Int.toNat x1))) fun m_oldEnding_181 =>
    vl (x1 + 1) fun x1_182 =>
    some (0, (x1_182, m_oldLine_101, m_oldFrom_121, m_oldTo_141, m_oldWord_161, m_oldEnding_181))
def m_X9_act_190 (x1 : Int) (m_n : Int) (m_fixedMany : Int) (m_line : Nat → Int) (m_breaks : Nat → Int) (m_fixedFrom : Nat → Int) (m_fixedTo : Nat → Int) (m_fixedWord : Nat → Int) (m_fixedEnding : Nat → Int) (m_acts : Int) (m_oldN : Nat → Int) (m_oldFixed : Nat → Int) (m_oldLine : Nat → Int) (m_oldBreaks : Nat → Int) (m_oldFrom : Nat → Int) (m_oldTo : Nat → Int) (m_oldWord : Nat → Int) (m_oldEnding : Nat → Int) (m_isRead : Int) : Option (Nat × (Int × (Nat → Int))) :=
  gd (inI x1) <|
  if 36 < x1 then
    some (1, (x1, m_oldBreaks))
  else
    gd (0 ≤ x1 ∧ x1 < 37) <|
    gd (0 ≤ ((37 * m_acts) + x1) ∧ ((37 * m_acts) + x1) < 2960) <|
    vl (uz m_oldBreaks (Int.toNat ((37 * m_acts) + x1)) (m_breaks (Int.toNat x1))) fun m_oldBreaks_215 =>
    vl (x1 + 1) fun x1_216 =>
    some (0, (x1_216, m_oldBreaks_215))
def m_X9_act_48 (m_n : Int) (m_fixedMany : Int) (m_line : Nat → Int) (m_breaks : Nat → Int) (m_fixedFrom : Nat → Int) (m_fixedTo : Nat → Int) (m_fixedWord : Nat → Int) (m_fixedEnding : Nat → Int) (m_acts : Int) (m_oldN : Nat → Int) (m_oldFixed : Nat → Int) (m_oldLine : Nat → Int) (m_oldBreaks : Nat → Int) (m_oldFrom : Nat → Int) (m_oldTo : Nat → Int) (m_oldWord : Nat → Int) (m_oldEnding : Nat → Int) (m_isRead : Int) : Option (Int × (Nat → Int) × (Nat → Int) × (Nat → Int) × (Nat → Int) × (Nat → Int) × (Nat → Int) × (Nat → Int) × (Nat → Int) × Int) :=
  gd (0 ≤ m_acts ∧ m_acts < 80) <|
  vl (uz m_oldN (Int.toNat m_acts) m_n) fun m_oldN_60 =>
  gd (0 ≤ m_acts ∧ m_acts < 80) <|
  vl (uz m_oldFixed (Int.toNat m_acts) m_fixedMany) fun m_oldFixed_73 =>
  (zloop (fun a => m_X9_act_76 a.1 m_n m_fixedMany m_line m_breaks m_fixedFrom m_fixedTo m_fixedWord m_fixedEnding m_acts m_oldN_60 m_oldFixed_73 a.2.1 m_oldBreaks a.2.2.1 a.2.2.2.1 a.2.2.2.2.1 a.2.2.2.2.2 m_isRead) FU (0, m_oldLine, m_oldFrom, m_oldTo, m_oldWord, m_oldEnding)).bind fun (t_76, x1_76, m_oldLine_76, m_oldFrom_76, m_oldTo_76, m_oldWord_76, m_oldEnding_76) =>
  (zloop (fun a => m_X9_act_190 a.1 m_n m_fixedMany m_line m_breaks m_fixedFrom m_fixedTo m_fixedWord m_fixedEnding m_acts m_oldN_60 m_oldFixed_73 m_oldLine_76 a.2 m_oldFrom_76 m_oldTo_76 m_oldWord_76 m_oldEnding_76 m_isRead) FU (0, m_oldBreaks)).bind fun (t_190, x1_190, m_oldBreaks_190) =>
  vl (m_acts + 1) fun m_acts_229 =>
  some (m_acts_229, m_oldN_60, m_oldFixed_73, m_oldLine_76, m_oldBreaks_190, m_oldFrom_76, m_oldTo_76, m_oldWord_76, m_oldEnding_76, m_isRead)
def m_X9_act (m_n : Int) (m_fixedMany : Int) (m_line : Nat → Int) (m_breaks : Nat → Int) (m_fixedFrom : Nat → Int) (m_fixedTo : Nat → Int) (m_fixedWord : Nat → Int) (m_fixedEnding : Nat → Int) (m_acts : Int) (m_oldN : Nat → Int) (m_oldFixed : Nat → Int) (m_oldLine : Nat → Int) (m_oldBreaks : Nat → Int) (m_oldFrom : Nat → Int) (m_oldTo : Nat → Int) (m_oldWord : Nat → Int) (m_oldEnding : Nat → Int) (m_isRead : Int) : Option (Int × (Nat → Int) × (Nat → Int) × (Nat → Int) × (Nat → Int) × (Nat → Int) × (Nat → Int) × (Nat → Int) × (Nat → Int) × Int) :=
  gd (inI m_acts) <|
  if m_acts = 80 then
    (zloop (fun a => m_X9_act_16 a.1 m_n m_fixedMany m_line m_breaks m_fixedFrom m_fixedTo m_fixedWord m_fixedEnding m_acts a.2.1 a.2.2.1 a.2.2.2.1 a.2.2.2.2.1 a.2.2.2.2.2.1 a.2.2.2.2.2.2.1 a.2.2.2.2.2.2.2.1 a.2.2.2.2.2.2.2.2 0) FU (0, m_oldN, m_oldFixed, m_oldLine, m_oldBreaks, m_oldFrom, m_oldTo, m_oldWord, m_oldEnding)).bind fun (t_16, x1_16, m_oldN_16, m_oldFixed_16, m_oldLine_16, m_oldBreaks_16, m_oldFrom_16, m_oldTo_16, m_oldWord_16, m_oldEnding_16) =>
    vl (m_acts - 1) fun m_acts_45 =>
    m_X9_act_48 m_n m_fixedMany m_line m_breaks m_fixedFrom m_fixedTo m_fixedWord m_fixedEnding m_acts_45 m_oldN_16 m_oldFixed_16 m_oldLine_16 m_oldBreaks_16 m_oldFrom_16 m_oldTo_16 m_oldWord_16 m_oldEnding_16 0
  else
    m_X9_act_48 m_n m_fixedMany m_line m_breaks m_fixedFrom m_fixedTo m_fixedWord m_fixedEnding m_acts m_oldN m_oldFixed m_oldLine m_oldBreaks m_oldFrom m_oldTo m_oldWord m_oldEnding 0
def m_X9_type_16 (m_code : Int) (m_n : Int) (m_fixedMany : Int) (m_line : Nat → Int) (m_breaks : Nat → Int) (m_fixedFrom : Nat → Int) (m_fixedTo : Nat → Int) (m_fixedWord : Nat → Int) (m_fixedEnding : Nat → Int) (m_acts : Int) (m_oldN : Nat → Int) (m_oldFixed : Nat → Int) (m_oldLine : Nat → Int) (m_oldBreaks : Nat → Int) (m_oldFrom : Nat → Int) (m_oldTo : Nat → Int) (m_oldWord : Nat → Int) (m_oldEnding : Nat → Int) (m_isRead : Int) (m_isMade : Int) : Option (Int × Int × Int × (Nat → Int) × (Nat → Int) × Int × (Nat → Int) × (Nat → Int) × (Nat → Int) × (Nat → Int) × (Nat → Int) × (Nat → Int) × (Nat → Int) × (Nat → Int) × Int × Int) :=
  (m_X9_fail m_code).bind fun (r_17, m_code_17) =>
  some (r_17, m_code_17, m_n, m_line, m_breaks, m_acts, m_oldN, m_oldFixed, m_oldLine, m_oldBreaks, m_oldFrom, m_oldTo, m_oldWord, m_oldEnding, m_isRead, m_isMade)
def m_X9_type_40 (x1 : Int) (x2 : Int) (x3 : Int) (m_code : Int) (m_n : Int) (m_fixedMany : Int) (m_line : Nat → Int) (m_breaks : Nat → Int) (m_fixedFrom : Nat → Int) (m_fixedTo : Nat → Int) (m_fixedWord : Nat → Int) (m_fixedEnding : Nat → Int) (m_acts : Int) (m_oldN : Nat → Int) (m_oldFixed : Nat → Int) (m_oldLine : Nat → Int) (m_oldBreaks : Nat → Int) (m_oldFrom : Nat → Int) (m_oldTo : Nat → Int) (m_oldWord : Nat → Int) (m_oldEnding : Nat → Int) (m_isRead : Int) (m_isMade : Int) : Option (Nat × (Int × Int)) :=
  gd (inI x3) <|
  gd (inI m_fixedMany) <|
  if m_fixedMany ≤ x3 then
    some (1, (x2, x3))
  else
    gd (0 ≤ x3 ∧ x3 < 36) <|
    gd (inI (m_fixedTo (Int.toNat x3))) <|
    gd (inI m_n) <|
    if (m_fixedTo (Int.toNat x3)) = m_n then
      vl (x3 + 1) fun x3_63_v2 =>
      some (0, (1, x3_63_v2))
    else
      vl (x3 + 1) fun x3_63 =>
      some (0, (x2, x3_63))
def m_X9_type_93 (x1 : Int) (t1 : Int) (t2 : Int) (m_code : Int) (m_n : Int) (m_fixedMany : Int) (m_line : Nat → Int) (m_breaks : Nat → Int) (m_fixedFrom : Nat → Int) (m_fixedTo : Nat → Int) (m_fixedWord : Nat → Int) (m_fixedEnding : Nat → Int) (m_acts : Int) (m_oldN : Nat → Int) (m_oldFixed : Nat → Int) (m_oldLine : Nat → Int) (m_oldBreaks : Nat → Int) (m_oldFrom : Nat → Int) (m_oldTo : Nat → Int) (m_oldWord : Nat → Int) (m_oldEnding : Nat → Int) (m_isRead : Int) (m_isMade : Int) : Option (Int × Int × Int × (Nat → Int) × (Nat → Int) × Int × (Nat → Int) × (Nat → Int) × (Nat → Int) × (Nat → Int) × (Nat → Int) × (Nat → Int) × (Nat → Int) × (Nat → Int) × Int × Int) :=
  gd (0 ≤ t1 ∧ t1 < 37) <|
  vl (uz m_breaks (Int.toNat t1) t2) fun m_breaks_93 =>
  gd (0 ≤ m_n ∧ m_n < 36) <|
  vl (uz m_line (Int.toNat m_n) x1) fun m_line_103 =>
  vl (m_n + 1) fun m_n_111 =>
  (m_X9_changed m_isRead m_isMade).bind fun (m_isRead_115, m_isMade_115) =>
  some (m_n_111, m_code, m_n_111, m_line_103, m_breaks_93, m_acts, m_oldN, m_oldFixed, m_oldLine, m_oldBreaks, m_oldFrom, m_oldTo, m_oldWord, m_oldEnding, m_isRead_115, m_isMade_115)
def m_X9_type_92 (x1 : Int) (t1 : Int) (m_code : Int) (m_n : Int) (m_fixedMany : Int) (m_line : Nat → Int) (m_breaks : Nat → Int) (m_fixedFrom : Nat → Int) (m_fixedTo : Nat → Int) (m_fixedWord : Nat → Int) (m_fixedEnding : Nat → Int) (m_acts : Int) (m_oldN : Nat → Int) (m_oldFixed : Nat → Int) (m_oldLine : Nat → Int) (m_oldBreaks : Nat → Int) (m_oldFrom : Nat → Int) (m_oldTo : Nat → Int) (m_oldWord : Nat → Int) (m_oldEnding : Nat → Int) (m_isRead : Int) (m_isMade : Int) : Option (Int × Int × Int × (Nat → Int) × (Nat → Int) × Int × (Nat → Int) × (Nat → Int) × (Nat → Int) × (Nat → Int) × (Nat → Int) × (Nat → Int) × (Nat → Int) × (Nat → Int) × Int × Int) :=
  m_X9_type_93 x1 t1 0 m_code m_n m_fixedMany m_line m_breaks m_fixedFrom m_fixedTo m_fixedWord m_fixedEnding m_acts m_oldN m_oldFixed m_oldLine m_oldBreaks m_oldFrom m_oldTo m_oldWord m_oldEnding m_isRead m_isMade
def m_X9_type (x1 : Int) (m_code : Int) (m_n : Int) (m_fixedMany : Int) (m_line : Nat → Int) (m_breaks : Nat → Int) (m_fixedFrom : Nat → Int) (m_fixedTo : Nat → Int) (m_fixedWord : Nat → Int) (m_fixedEnding : Nat → Int) (m_acts : Int) (m_oldN : Nat → Int) (m_oldFixed : Nat → Int) (m_oldLine : Nat → Int) (m_oldBreaks : Nat → Int) (m_oldFrom : Nat → Int) (m_oldTo : Nat → Int) (m_oldWord : Nat → Int) (m_oldEnding : Nat → Int) (m_isRead : Int) (m_isMade : Int) : Option (Int × Int × Int × (Nat → Int) × (Nat → Int) × Int × (Nat → Int) × (Nat → Int) × (Nat → Int) × (Nat → Int) × (Nat → Int) × (Nat → Int) × (Nat → Int) × (Nat → Int) × Int × Int) :=
  gd (inI x1) <|
  if x1 < 1 then
    m_X9_type_16 0 m_n m_fixedMany m_line m_breaks m_fixedFrom m_fixedTo m_fixedWord m_fixedEnding m_acts m_oldN m_oldFixed m_oldLine m_oldBreaks m_oldFrom m_oldTo m_oldWord m_oldEnding m_isRead m_isMade
  else
    if x1 ≤ 26 then
      gd (inI m_n) <|
      if m_n = 36 then
        some ((-1), 0, m_n, m_line, m_breaks, m_acts, m_oldN, m_oldFixed, m_oldLine, m_oldBreaks, m_oldFrom, m_oldTo, m_oldWord, m_oldEnding, m_isRead, m_isMade)
      else
        (m_X9_act m_n m_fixedMany m_line m_breaks m_fixedFrom m_fixedTo m_fixedWord m_fixedEnding m_acts m_oldN m_oldFixed m_oldLine m_oldBreaks m_oldFrom m_oldTo m_oldWord m_oldEnding m_isRead).bind fun (m_acts_33, m_oldN_33, m_oldFixed_33, m_oldLine_33, m_oldBreaks_33, m_oldFrom_33, m_oldTo_33, m_oldWord_33, m_oldEnding_33, m_isRead_33) =>
        (zloop (fun a => m_X9_type_40 x1 a.1 a.2 0 m_n m_fixedMany m_line m_breaks m_fixedFrom m_fixedTo m_fixedWord m_fixedEnding m_acts_33 m_oldN_33 m_oldFixed_33 m_oldLine_33 m_oldBreaks_33 m_oldFrom_33 m_oldTo_33 m_oldWord_33 m_oldEnding_33 m_isRead_33 m_isMade) FU (0, 0)).bind fun (t_40, x2_40, x3_40) =>
        if m_n ≤ 0 then
          m_X9_type_92 x1 m_n 0 m_n m_fixedMany m_line m_breaks m_fixedFrom m_fixedTo m_fixedWord m_fixedEnding m_acts_33 m_oldN_33 m_oldFixed_33 m_oldLine_33 m_oldBreaks_33 m_oldFrom_33 m_oldTo_33 m_oldWord_33 m_oldEnding_33 m_isRead_33 m_isMade
        else
          gd (inI x2_40) <|
          if x2_40 = 0 then
            m_X9_type_92 x1 m_n 0 m_n m_fixedMany m_line m_breaks m_fixedFrom m_fixedTo m_fixedWord m_fixedEnding m_acts_33 m_oldN_33 m_oldFixed_33 m_oldLine_33 m_oldBreaks_33 m_oldFrom_33 m_oldTo_33 m_oldWord_33 m_oldEnding_33 m_isRead_33 m_isMade
          else
            m_X9_type_93 x1 m_n 1 0 m_n m_fixedMany m_line m_breaks m_fixedFrom m_fixedTo m_fixedWord m_fixedEnding m_acts_33 m_oldN_33 m_oldFixed_33 m_oldLine_33 m_oldBreaks_33 m_oldFrom_33 m_oldTo_33 m_oldWord_33 m_oldEnding_33 m_isRead_33 m_isMade
    else
      m_X9_type_16 0 m_n m_fixedMany m_line m_breaks m_fixedFrom m_fixedTo m_fixedWord m_fixedEnding m_acts m_oldN m_oldFixed m_oldLine m_oldBreaks m_oldFrom m_oldTo m_oldWord m_oldEnding m_isRead m_isMade
def m_X9_typed_29 (m_code : Int) (m_n : Int) (m_line : Nat → Int) : Option (Int × Int) :=
  (m_X9_fail m_code).bind fun (r_30, m_code_30) =>
  some (r_30, m_code_30)
def m_X9_typed (x1 : Int) (m_code : Int) (m_n : Int) (m_line : Nat → Int) : Option (Int × Int) :=
  gd (inI x1) <|
  if x1 = (-1) then
    some (m_n, 0)
  else
    if x1 < 0 then
      m_X9_typed_29 0 m_n m_line
    else
      gd (inI m_n) <|
      if x1 < m_n then
        gd (0 ≤ x1 ∧ x1 < 36) <|
        some ((m_line (Int.toNat x1)), 0)
      else
        m_X9_typed_29 0 m_n m_line
def m_X9_cost (m_code : Int) (m_spellMany : Nat → Int) (m_spellPrice : Nat → Int) (m_spell : Nat → Int) (m_sounds : Nat → Int) (m_endSounds : Nat → Int) (m_kind : Nat → Int) (m_itsClass : Nat → Int) (m_count : Nat → Int) (m_endClass : Nat → Int) (m_endPrice : Nat → Int) (m_words : Int) (m_endings : Int) (m_slip : Int) (m_guess : Int) (m_base : Int) (m_steps : Nat → Int) (m_pairs : Nat → Int) (m_n : Int) (m_fixedMany : Int) (m_line : Nat → Int) (m_breaks : Nat → Int) (m_fixedFrom : Nat → Int) (m_fixedTo : Nat → Int) (m_fixedWord : Nat → Int) (m_fixedEnding : Nat → Int) (m_isRead : Int) (m_isMade : Int) (m_table : Nat → Int) (m_reach : Nat → Int) (m_next : Nat → Int) (m_rest : Nat → Int) (m_ahead : Nat → Int) (m_parts : Int) (m_total : Int) (m_partFrom : Nat → Int) (m_partTo : Nat → Int) (m_partWord : Nat → Int) (m_partEnding : Nat → Int) (m_found : Int) (m_from0 : Int) (m_kind0 : Int) : Option (Int × Int × Int × Int × (Nat → Int) × (Nat → Int) × (Nat → Int) × (Nat → Int) × (Nat → Int) × Int × Int × (Nat → Int) × (Nat → Int) × (Nat → Int) × (Nat → Int) × Int × Int × Int) :=
  (m_X9_read m_spellMany m_spellPrice m_spell m_sounds m_endSounds m_kind m_itsClass m_count m_endClass m_endPrice m_words m_endings m_slip m_guess m_base m_steps m_pairs m_n m_fixedMany m_line m_breaks m_fixedFrom m_fixedTo m_fixedWord m_fixedEnding m_isRead m_isMade m_table m_reach m_next m_rest m_ahead m_parts m_total m_partFrom m_partTo m_partWord m_partEnding m_found m_from0 m_kind0).bind fun (m_isRead_6, m_isMade_6, m_table_6, m_reach_6, m_next_6, m_rest_6, m_ahead_6, m_parts_6, m_total_6, m_partFrom_6, m_partTo_6, m_partWord_6, m_partEnding_6, m_found_6, m_from0_6, m_kind0_6) =>
  gd (inI m_total_6) <|
  if m_total_6 < 134217728 then
    some (m_total_6, 0, m_isRead_6, m_isMade_6, m_table_6, m_reach_6, m_next_6, m_rest_6, m_ahead_6, m_parts_6, m_total_6, m_partFrom_6, m_partTo_6, m_partWord_6, m_partEnding_6, m_found_6, m_from0_6, m_kind0_6)
  else
    some ((-1000000), 0, m_isRead_6, m_isMade_6, m_table_6, m_reach_6, m_next_6, m_rest_6, m_ahead_6, m_parts_6, m_total_6, m_partFrom_6, m_partTo_6, m_partWord_6, m_partEnding_6, m_found_6, m_from0_6, m_kind0_6)
def m_X9_parts (m_code : Int) (m_spellMany : Nat → Int) (m_spellPrice : Nat → Int) (m_spell : Nat → Int) (m_sounds : Nat → Int) (m_endSounds : Nat → Int) (m_kind : Nat → Int) (m_itsClass : Nat → Int) (m_count : Nat → Int) (m_endClass : Nat → Int) (m_endPrice : Nat → Int) (m_words : Int) (m_endings : Int) (m_slip : Int) (m_guess : Int) (m_base : Int) (m_steps : Nat → Int) (m_pairs : Nat → Int) (m_n : Int) (m_fixedMany : Int) (m_line : Nat → Int) (m_breaks : Nat → Int) (m_fixedFrom : Nat → Int) (m_fixedTo : Nat → Int) (m_fixedWord : Nat → Int) (m_fixedEnding : Nat → Int) (m_isRead : Int) (m_isMade : Int) (m_table : Nat → Int) (m_reach : Nat → Int) (m_next : Nat → Int) (m_rest : Nat → Int) (m_ahead : Nat → Int) (m_parts : Int) (m_total : Int) (m_partFrom : Nat → Int) (m_partTo : Nat → Int) (m_partWord : Nat → Int) (m_partEnding : Nat → Int) (m_found : Int) (m_from0 : Int) (m_kind0 : Int) : Option (Int × Int × Int × Int × (Nat → Int) × (Nat → Int) × (Nat → Int) × (Nat → Int) × (Nat → Int) × Int × Int × (Nat → Int) × (Nat → Int) × (Nat → Int) × (Nat → Int) × Int × Int × Int) :=
  (m_X9_read m_spellMany m_spellPrice m_spell m_sounds m_endSounds m_kind m_itsClass m_count m_endClass m_endPrice m_words m_endings m_slip m_guess m_base m_steps m_pairs m_n m_fixedMany m_line m_breaks m_fixedFrom m_fixedTo m_fixedWord m_fixedEnding m_isRead m_isMade m_table m_reach m_next m_rest m_ahead m_parts m_total m_partFrom m_partTo m_partWord m_partEnding m_found m_from0 m_kind0).bind fun (m_isRead_6, m_isMade_6, m_table_6, m_reach_6, m_next_6, m_rest_6, m_ahead_6, m_parts_6, m_total_6, m_partFrom_6, m_partTo_6, m_partWord_6, m_partEnding_6, m_found_6, m_from0_6, m_kind0_6) =>
  some (m_parts_6, 0, m_isRead_6, m_isMade_6, m_table_6, m_reach_6, m_next_6, m_rest_6, m_ahead_6, m_parts_6, m_total_6, m_partFrom_6, m_partTo_6, m_partWord_6, m_partEnding_6, m_found_6, m_from0_6, m_kind0_6)
def m_X9_isFixed_2 (x1 : Int) (x2 : Int) (m_fixedMany : Int) (m_fixedFrom : Nat → Int) (m_fixedTo : Nat → Int) (m_partFrom : Nat → Int) (m_partTo : Nat → Int) : Option (Nat × (Int)) :=
  gd (inI x2) <|
  gd (inI m_fixedMany) <|
  if m_fixedMany ≤ x2 then
    some (1, x2)
  else
    gd (0 ≤ x2 ∧ x2 < 36) <|
    gd (0 ≤ x1 ∧ x1 < 36) <|
    gd (inI (m_fixedFrom (Int.toNat x2))) <|
    gd (inI (m_partFrom (Int.toNat x1))) <|
    if (m_fixedFrom (Int.toNat x2)) = (m_partFrom (Int.toNat x1)) then
      gd (0 ≤ x2 ∧ x2 < 36) <|
      gd (0 ≤ x1 ∧ x1 < 36) <|
      gd (inI (m_fixedTo (Int.toNat x2))) <|
      gd (inI (m_partTo (Int.toNat x1))) <|
      if (m_fixedTo (Int.toNat x2)) = (m_partTo (Int.toNat x1)) then
        some (2, x2)
      else
        vl (x2 + 1) fun x2_42_v2 =>
        some (0, x2_42_v2)
    else
      vl (x2 + 1) fun x2_42 =>
      some (0, x2_42)
def m_X9_isFixed (x1 : Int) (m_fixedMany : Int) (m_fixedFrom : Nat → Int) (m_fixedTo : Nat → Int) (m_partFrom : Nat → Int) (m_partTo : Nat → Int) : Option (Int) :=
  (zloop (fun a => m_X9_isFixed_2 x1 a m_fixedMany m_fixedFrom m_fixedTo m_partFrom m_partTo) FU 0).bind fun (t_2, x2_2) =>
  if t_2 = 1 then
    some 0
  else
    some 1
def m_X9_part_21 (m_code : Int) (m_spellMany : Nat → Int) (m_spellPrice : Nat → Int) (m_spell : Nat → Int) (m_sounds : Nat → Int) (m_endSounds : Nat → Int) (m_kind : Nat → Int) (m_itsClass : Nat → Int) (m_count : Nat → Int) (m_endClass : Nat → Int) (m_endPrice : Nat → Int) (m_words : Int) (m_endings : Int) (m_slip : Int) (m_guess : Int) (m_base : Int) (m_steps : Nat → Int) (m_pairs : Nat → Int) (m_n : Int) (m_fixedMany : Int) (m_line : Nat → Int) (m_breaks : Nat → Int) (m_fixedFrom : Nat → Int) (m_fixedTo : Nat → Int) (m_fixedWord : Nat → Int) (m_fixedEnding : Nat → Int) (m_isRead : Int) (m_isMade : Int) (m_table : Nat → Int) (m_reach : Nat → Int) (m_next : Nat → Int) (m_rest : Nat → Int) (m_ahead : Nat → Int) (m_parts : Int) (m_total : Int) (m_partFrom : Nat → Int) (m_partTo : Nat → Int) (m_partWord : Nat → Int) (m_partEnding : Nat → Int) (m_found : Int) (m_from0 : Int) (m_kind0 : Int) : Option (Int × Int × Int × Int × (Nat → Int) × (Nat → Int) × (Nat → Int) × (Nat → Int) × (Nat → Int) × Int × Int × (Nat → Int) × (Nat → Int) × (Nat → Int) × (Nat → Int) × Int × Int × Int) :=
  (m_X9_fail m_code).bind fun (r_22, m_code_22) =>
  some (r_22, m_code_22, m_isRead, m_isMade, m_table, m_reach, m_next, m_rest, m_ahead, m_parts, m_total, m_partFrom, m_partTo, m_partWord, m_partEnding, m_found, m_from0, m_kind0)
def m_X9_part (x1 : Int) (x2 : Int) (m_code : Int) (m_spellMany : Nat → Int) (m_spellPrice : Nat → Int) (m_spell : Nat → Int) (m_sounds : Nat → Int) (m_endSounds : Nat → Int) (m_kind : Nat → Int) (m_itsClass : Nat → Int) (m_count : Nat → Int) (m_endClass : Nat → Int) (m_endPrice : Nat → Int) (m_words : Int) (m_endings : Int) (m_slip : Int) (m_guess : Int) (m_base : Int) (m_steps : Nat → Int) (m_pairs : Nat → Int) (m_n : Int) (m_fixedMany : Int) (m_line : Nat → Int) (m_breaks : Nat → Int) (m_fixedFrom : Nat → Int) (m_fixedTo : Nat → Int) (m_fixedWord : Nat → Int) (m_fixedEnding : Nat → Int) (m_isRead : Int) (m_isMade : Int) (m_table : Nat → Int) (m_reach : Nat → Int) (m_next : Nat → Int) (m_rest : Nat → Int) (m_ahead : Nat → Int) (m_parts : Int) (m_total : Int) (m_partFrom : Nat → Int) (m_partTo : Nat → Int) (m_partWord : Nat → Int) (m_partEnding : Nat → Int) (m_found : Int) (m_from0 : Int) (m_kind0 : Int) : Option (Int × Int × Int × Int × (Nat → Int) × (Nat → Int) × (Nat → Int) × (Nat → Int) × (Nat → Int) × Int × Int × (Nat → Int) × (Nat → Int) × (Nat → Int) × (Nat → Int) × Int × Int × Int) :=
  (m_X9_read m_spellMany m_spellPrice m_spell m_sounds m_endSounds m_kind m_itsClass m_count m_endClass m_endPrice m_words m_endings m_slip m_guess m_base m_steps m_pairs m_n m_fixedMany m_line m_breaks m_fixedFrom m_fixedTo m_fixedWord m_fixedEnding m_isRead m_isMade m_table m_reach m_next m_rest m_ahead m_parts m_total m_partFrom m_partTo m_partWord m_partEnding m_found m_from0 m_kind0).bind fun (m_isRead_6, m_isMade_6, m_table_6, m_reach_6, m_next_6, m_rest_6, m_ahead_6, m_parts_6, m_total_6, m_partFrom_6, m_partTo_6, m_partWord_6, m_partEnding_6, m_found_6, m_from0_6, m_kind0_6) =>
  gd (inI x1) <|
  if x1 < 0 then
    m_X9_part_21 0 m_spellMany m_spellPrice m_spell m_sounds m_endSounds m_kind m_itsClass m_count m_endClass m_endPrice m_words m_endings m_slip m_guess m_base m_steps m_pairs m_n m_fixedMany m_line m_breaks m_fixedFrom m_fixedTo m_fixedWord m_fixedEnding m_isRead_6 m_isMade_6 m_table_6 m_reach_6 m_next_6 m_rest_6 m_ahead_6 m_parts_6 m_total_6 m_partFrom_6 m_partTo_6 m_partWord_6 m_partEnding_6 m_found_6 m_from0_6 m_kind0_6
  else
    gd (inI m_parts_6) <|
    if x1 < m_parts_6 then
      gd (inI x2) <|
      if x2 = 0 then
        gd (0 ≤ x1 ∧ x1 < 36) <|
        some ((m_partFrom_6 (Int.toNat x1)), 0, m_isRead_6, m_isMade_6, m_table_6, m_reach_6, m_next_6, m_rest_6, m_ahead_6, m_parts_6, m_total_6, m_partFrom_6, m_partTo_6, m_partWord_6, m_partEnding_6, m_found_6, m_from0_6, m_kind0_6)
      else
      if x2 = 1 then
        gd (0 ≤ x1 ∧ x1 < 36) <|
        some ((m_partTo_6 (Int.toNat x1)), 0, m_isRead_6, m_isMade_6, m_table_6, m_reach_6, m_next_6, m_rest_6, m_ahead_6, m_parts_6, m_total_6, m_partFrom_6, m_partTo_6, m_partWord_6, m_partEnding_6, m_found_6, m_from0_6, m_kind0_6)
      else
      if x2 = 2 then
        gd (0 ≤ x1 ∧ x1 < 36) <|
        gd (inI (m_partWord_6 (Int.toNat x1))) <|
        if (m_partWord_6 (Int.toNat x1)) = 60 then
          some ((-1), 0, m_isRead_6, m_isMade_6, m_table_6, m_reach_6, m_next_6, m_rest_6, m_ahead_6, m_parts_6, m_total_6, m_partFrom_6, m_partTo_6, m_partWord_6, m_partEnding_6, m_found_6, m_from0_6, m_kind0_6)
        else
          gd (0 ≤ x1 ∧ x1 < 36) <|
          some ((m_partWord_6 (Int.toNat x1)), 0, m_isRead_6, m_isMade_6, m_table_6, m_reach_6, m_next_6, m_rest_6, m_ahead_6, m_parts_6, m_total_6, m_partFrom_6, m_partTo_6, m_partWord_6, m_partEnding_6, m_found_6, m_from0_6, m_kind0_6)
      else
      if x2 = 3 then
        gd (0 ≤ x1 ∧ x1 < 36) <|
        some ((m_partEnding_6 (Int.toNat x1)), 0, m_isRead_6, m_isMade_6, m_table_6, m_reach_6, m_next_6, m_rest_6, m_ahead_6, m_parts_6, m_total_6, m_partFrom_6, m_partTo_6, m_partWord_6, m_partEnding_6, m_found_6, m_from0_6, m_kind0_6)
      else
      if x2 = 4 then
        gd (0 ≤ x1 ∧ x1 < 36) <|
        (m_X9_kindOf (m_partWord_6 (Int.toNat x1)) m_kind).bind fun r_118 =>
        some (r_118, 0, m_isRead_6, m_isMade_6, m_table_6, m_reach_6, m_next_6, m_rest_6, m_ahead_6, m_parts_6, m_total_6, m_partFrom_6, m_partTo_6, m_partWord_6, m_partEnding_6, m_found_6, m_from0_6, m_kind0_6)
      else
      if x2 = 5 then
        gd (0 ≤ x1 ∧ x1 < 36) <|
        gd (0 ≤ x1 ∧ x1 < 36) <|
        gd (0 ≤ x1 ∧ x1 < 36) <|
        gd (0 ≤ x1 ∧ x1 < 36) <|
        (m_X9_costOf (m_partFrom_6 (Int.toNat x1)) (m_partTo_6 (Int.toNat x1)) (m_partWord_6 (Int.toNat x1)) (m_partEnding_6 (Int.toNat x1)) m_itsClass m_count m_endClass m_endPrice m_guess m_base m_table_6).bind fun r_147 =>
        some (r_147, 0, m_isRead_6, m_isMade_6, m_table_6, m_reach_6, m_next_6, m_rest_6, m_ahead_6, m_parts_6, m_total_6, m_partFrom_6, m_partTo_6, m_partWord_6, m_partEnding_6, m_found_6, m_from0_6, m_kind0_6)
      else
      if x2 = 6 then
        (m_X9_isFixed x1 m_fixedMany m_fixedFrom m_fixedTo m_partFrom_6 m_partTo_6).bind fun r_153 =>
        gd (inI r_153) <|
        if r_153 = 0 then
          some (0, 0, m_isRead_6, m_isMade_6, m_table_6, m_reach_6, m_next_6, m_rest_6, m_ahead_6, m_parts_6, m_total_6, m_partFrom_6, m_partTo_6, m_partWord_6, m_partEnding_6, m_found_6, m_from0_6, m_kind0_6)
        else
          some (1, 0, m_isRead_6, m_isMade_6, m_table_6, m_reach_6, m_next_6, m_rest_6, m_ahead_6, m_parts_6, m_total_6, m_partFrom_6, m_partTo_6, m_partWord_6, m_partEnding_6, m_found_6, m_from0_6, m_kind0_6)
      else
      (m_X9_fail 0).bind fun (r_166, m_code_166) =>
      some (r_166, m_code_166, m_isRead_6, m_isMade_6, m_table_6, m_reach_6, m_next_6, m_rest_6, m_ahead_6, m_parts_6, m_total_6, m_partFrom_6, m_partTo_6, m_partWord_6, m_partEnding_6, m_found_6, m_from0_6, m_kind0_6)
    else
      m_X9_part_21 0 m_spellMany m_spellPrice m_spell m_sounds m_endSounds m_kind m_itsClass m_count m_endClass m_endPrice m_words m_endings m_slip m_guess m_base m_steps m_pairs m_n m_fixedMany m_line m_breaks m_fixedFrom m_fixedTo m_fixedWord m_fixedEnding m_isRead_6 m_isMade_6 m_table_6 m_reach_6 m_next_6 m_rest_6 m_ahead_6 m_parts_6 m_total_6 m_partFrom_6 m_partTo_6 m_partWord_6 m_partEnding_6 m_found_6 m_from0_6 m_kind0_6
def m_X9_sign_57 (x1 : Int) (x2 : Int) (x3 : Int) (x4 : Int) (x5 : Int) (x6 : Int) (m_code : Int) (m_spellMany : Nat → Int) (m_spellPrice : Nat → Int) (m_spell : Nat → Int) (m_sounds : Nat → Int) (m_signs : Nat → Int) (m_endSounds : Nat → Int) (m_kind : Nat → Int) (m_itsClass : Nat → Int) (m_count : Nat → Int) (m_endSign : Nat → Int) (m_endClass : Nat → Int) (m_endPrice : Nat → Int) (m_words : Int) (m_endings : Int) (m_slip : Int) (m_guess : Int) (m_base : Int) (m_steps : Nat → Int) (m_pairs : Nat → Int) (m_n : Int) (m_fixedMany : Int) (m_line : Nat → Int) (m_breaks : Nat → Int) (m_fixedFrom : Nat → Int) (m_fixedTo : Nat → Int) (m_fixedWord : Nat → Int) (m_fixedEnding : Nat → Int) (m_isRead : Int) (m_isMade : Int) (m_table : Nat → Int) (m_reach : Nat → Int) (m_next : Nat → Int) (m_rest : Nat → Int) (m_ahead : Nat → Int) (m_parts : Int) (m_total : Int) (m_partFrom : Nat → Int) (m_partTo : Nat → Int) (m_partWord : Nat → Int) (m_partEnding : Nat → Int) (m_found : Int) (m_from0 : Int) (m_kind0 : Int) : Option (Nat × (Int × Int)) :=
  gd (inI x6) <|
  gd (inI x5) <|
  if x5 ≤ x6 then
    some (1, (x2, x6))
  else
    gd (inI x2) <|
    gd (inI x1) <|
    if x2 = x1 then
      some (2, (x2, x6))
    else
      vl (x2 + 1) fun x2_109 =>
      vl (x6 + 1) fun x6_112 =>
      some (0, (x2_109, x6_112))
def m_X9_sign_52 (x1 : Int) (x2 : Int) (x3 : Int) (x4 : Int) (t0 : Int) (m_code : Int) (m_spellMany : Nat → Int) (m_spellPrice : Nat → Int) (m_spell : Nat → Int) (m_sounds : Nat → Int) (m_signs : Nat → Int) (m_endSounds : Nat → Int) (m_kind : Nat → Int) (m_itsClass : Nat → Int) (m_count : Nat → Int) (m_endSign : Nat → Int) (m_endClass : Nat → Int) (m_endPrice : Nat → Int) (m_words : Int) (m_endings : Int) (m_slip : Int) (m_guess : Int) (m_base : Int) (m_steps : Nat → Int) (m_pairs : Nat → Int) (m_n : Int) (m_fixedMany : Int) (m_line : Nat → Int) (m_breaks : Nat → Int) (m_fixedFrom : Nat → Int) (m_fixedTo : Nat → Int) (m_fixedWord : Nat → Int) (m_fixedEnding : Nat → Int) (m_isRead : Int) (m_isMade : Int) (m_table : Nat → Int) (m_reach : Nat → Int) (m_next : Nat → Int) (m_rest : Nat → Int) (m_ahead : Nat → Int) (m_parts : Int) (m_total : Int) (m_partFrom : Nat → Int) (m_partTo : Nat → Int) (m_partWord : Nat → Int) (m_partEnding : Nat → Int) (m_found : Int) (m_from0 : Int) (m_kind0 : Int) : Option (Nat × (Int × Int × Int × Int)) :=
  (zloop (fun a => m_X9_sign_57 x1 a.1 x3 x4 t0 a.2 m_code m_spellMany m_spellPrice m_spell m_sounds m_signs m_endSounds m_kind m_itsClass m_count m_endSign m_endClass m_endPrice m_words m_endings m_slip m_guess m_base m_steps m_pairs m_n m_fixedMany m_line m_breaks m_fixedFrom m_fixedTo m_fixedWord m_fixedEnding m_isRead m_isMade m_table m_reach m_next m_rest m_ahead m_parts m_total m_partFrom m_partTo m_partWord m_partEnding m_found m_from0 m_kind0) FU (x2, 0)).bind fun (t_57, x2_57, x6_57) =>
  if t_57 = 1 then
    gd (0 ≤ x3 ∧ x3 < 36) <|
    gd (inI (m_partEnding (Int.toNat x3))) <|
    if (m_partEnding (Int.toNat x3)) = (-1) then
      vl (x3 + 1) fun x3_151_v2 =>
      some (0, (x2_57, x3_151_v2, 0, 0))
    else
      gd (inI x2_57) <|
      gd (inI x1) <|
      if x2_57 = x1 then
        some (3, (x2_57, x3, 0, 0))
      else
        vl (x2_57 + 1) fun x2_148 =>
        vl (x3 + 1) fun x3_151 =>
        some (0, (x2_148, x3_151, 0, 0))
  else
    some (2, (0, x3, x4, x6_57))
def m_X9_sign_13 (x4 : Int) (x6 : Int) (x1 : Int) (x2 : Int) (x3 : Int) (m_code : Int) (m_spellMany : Nat → Int) (m_spellPrice : Nat → Int) (m_spell : Nat → Int) (m_sounds : Nat → Int) (m_signs : Nat → Int) (m_endSounds : Nat → Int) (m_kind : Nat → Int) (m_itsClass : Nat → Int) (m_count : Nat → Int) (m_endSign : Nat → Int) (m_endClass : Nat → Int) (m_endPrice : Nat → Int) (m_words : Int) (m_endings : Int) (m_slip : Int) (m_guess : Int) (m_base : Int) (m_steps : Nat → Int) (m_pairs : Nat → Int) (m_n : Int) (m_fixedMany : Int) (m_line : Nat → Int) (m_breaks : Nat → Int) (m_fixedFrom : Nat → Int) (m_fixedTo : Nat → Int) (m_fixedWord : Nat → Int) (m_fixedEnding : Nat → Int) (m_isRead : Int) (m_isMade : Int) (m_table : Nat → Int) (m_reach : Nat → Int) (m_next : Nat → Int) (m_rest : Nat → Int) (m_ahead : Nat → Int) (m_parts : Int) (m_total : Int) (m_partFrom : Nat → Int) (m_partTo : Nat → Int) (m_partWord : Nat → Int) (m_partEnding : Nat → Int) (m_found : Int) (m_from0 : Int) (m_kind0 : Int) : Option (Nat × (Int × Int × Int × Int)) :=
  gd (inI x3) <|
  gd (inI m_parts) <|
  if m_parts ≤ x3 then
    some (1, (x2, x3, x4, x6))
  else
    gd (0 ≤ x3 ∧ x3 < 36) <|
    vl (m_partWord (Int.toNat x3)) fun x4_27 =>
    gd (inI x4_27) <|
    if x4_27 = 60 then
      m_X9_sign_52 x1 x2 x3 x4_27 1 m_code m_spellMany m_spellPrice m_spell m_sounds m_signs m_endSounds m_kind m_itsClass m_count m_endSign m_endClass m_endPrice m_words m_endings m_slip m_guess m_base m_steps m_pairs m_n m_fixedMany m_line m_breaks m_fixedFrom m_fixedTo m_fixedWord m_fixedEnding m_isRead m_isMade m_table m_reach m_next m_rest m_ahead m_parts m_total m_partFrom m_partTo m_partWord m_partEnding m_found m_from0 m_kind0
    else
      gd (0 ≤ x4_27 ∧ x4_27 < 60) <|
      (m_X9_sizeOf (m_signs (Int.toNat x4_27)) 14).bind fun r_49 =>
      m_X9_sign_52 x1 x2 x3 x4_27 r_49 m_code m_spellMany m_spellPrice m_spell m_sounds m_signs m_endSounds m_kind m_itsClass m_count m_endSign m_endClass m_endPrice m_words m_endings m_slip m_guess m_base m_steps m_pairs m_n m_fixedMany m_line m_breaks m_fixedFrom m_fixedTo m_fixedWord m_fixedEnding m_isRead m_isMade m_table m_reach m_next m_rest m_ahead m_parts m_total m_partFrom m_partTo m_partWord m_partEnding m_found m_from0 m_kind0
def m_X9_sign (x1 : Int) (m_code : Int) (m_spellMany : Nat → Int) (m_spellPrice : Nat → Int) (m_spell : Nat → Int) (m_sounds : Nat → Int) (m_signs : Nat → Int) (m_endSounds : Nat → Int) (m_kind : Nat → Int) (m_itsClass : Nat → Int) (m_count : Nat → Int) (m_endSign : Nat → Int) (m_endClass : Nat → Int) (m_endPrice : Nat → Int) (m_words : Int) (m_endings : Int) (m_slip : Int) (m_guess : Int) (m_base : Int) (m_steps : Nat → Int) (m_pairs : Nat → Int) (m_n : Int) (m_fixedMany : Int) (m_line : Nat → Int) (m_breaks : Nat → Int) (m_fixedFrom : Nat → Int) (m_fixedTo : Nat → Int) (m_fixedWord : Nat → Int) (m_fixedEnding : Nat → Int) (m_isRead : Int) (m_isMade : Int) (m_table : Nat → Int) (m_reach : Nat → Int) (m_next : Nat → Int) (m_rest : Nat → Int) (m_ahead : Nat → Int) (m_parts : Int) (m_total : Int) (m_partFrom : Nat → Int) (m_partTo : Nat → Int) (m_partWord : Nat → Int) (m_partEnding : Nat → Int) (m_found : Int) (m_from0 : Int) (m_kind0 : Int) : Option (Int × Int × Int × Int × (Nat → Int) × (Nat → Int) × (Nat → Int) × (Nat → Int) × (Nat → Int) × Int × Int × (Nat → Int) × (Nat → Int) × (Nat → Int) × (Nat → Int) × Int × Int × Int) :=
  (m_X9_read m_spellMany m_spellPrice m_spell m_sounds m_endSounds m_kind m_itsClass m_count m_endClass m_endPrice m_words m_endings m_slip m_guess m_base m_steps m_pairs m_n m_fixedMany m_line m_breaks m_fixedFrom m_fixedTo m_fixedWord m_fixedEnding m_isRead m_isMade m_table m_reach m_next m_rest m_ahead m_parts m_total m_partFrom m_partTo m_partWord m_partEnding m_found m_from0 m_kind0).bind fun (m_isRead_6, m_isMade_6, m_table_6, m_reach_6, m_next_6, m_rest_6, m_ahead_6, m_parts_6, m_total_6, m_partFrom_6, m_partTo_6, m_partWord_6, m_partEnding_6, m_found_6, m_from0_6, m_kind0_6) =>
  (zloop (fun a => m_X9_sign_13 a.2.2.1 a.2.2.2 x1 a.1 a.2.1 0 m_spellMany m_spellPrice m_spell m_sounds m_signs m_endSounds m_kind m_itsClass m_count m_endSign m_endClass m_endPrice m_words m_endings m_slip m_guess m_base m_steps m_pairs m_n m_fixedMany m_line m_breaks m_fixedFrom m_fixedTo m_fixedWord m_fixedEnding m_isRead_6 m_isMade_6 m_table_6 m_reach_6 m_next_6 m_rest_6 m_ahead_6 m_parts_6 m_total_6 m_partFrom_6 m_partTo_6 m_partWord_6 m_partEnding_6 m_found_6 m_from0_6 m_kind0_6) FU (0, 0, 0, 0)).bind fun (t_13, x2_13, x3_13, x4_13, x6_13) =>
  if t_13 = 1 then
    gd (inI x1) <|
    if x1 = (-1) then
      some (x2_13, 0, m_isRead_6, m_isMade_6, m_table_6, m_reach_6, m_next_6, m_rest_6, m_ahead_6, m_parts_6, m_total_6, m_partFrom_6, m_partTo_6, m_partWord_6, m_partEnding_6, m_found_6, m_from0_6, m_kind0_6)
    else
      (m_X9_fail 0).bind fun (r_167, m_code_167) =>
      some (r_167, m_code_167, m_isRead_6, m_isMade_6, m_table_6, m_reach_6, m_next_6, m_rest_6, m_ahead_6, m_parts_6, m_total_6, m_partFrom_6, m_partTo_6, m_partWord_6, m_partEnding_6, m_found_6, m_from0_6, m_kind0_6)
  else
  if t_13 = 2 then
    gd (inI x4_13) <|
    if x4_13 = 60 then
      gd (0 ≤ x3_13 ∧ x3_13 < 36) <|
      gd (0 ≤ (m_partFrom_6 (Int.toNat x3_13)) ∧ (m_partFrom_6 (Int.toNat x3_13)) < 36) <|
      some ((20000 + (m_line (Int.toNat (m_partFrom_6 (Int.toNat x3_13))))), 0, m_isRead_6, m_isMade_6, m_table_6, m_reach_6, m_next_6, m_rest_6, m_ahead_6, m_parts_6, m_total_6, m_partFrom_6, m_partTo_6, m_partWord_6, m_partEnding_6, m_found_6, m_from0_6, m_kind0_6)
    else
      gd (0 ≤ x4_13 ∧ x4_13 < 60) <|
      (m_X9_piece (m_signs (Int.toNat x4_13)) 14 x6_13).bind fun r_105 =>
      some (r_105, 0, m_isRead_6, m_isMade_6, m_table_6, m_reach_6, m_next_6, m_rest_6, m_ahead_6, m_parts_6, m_total_6, m_partFrom_6, m_partTo_6, m_partWord_6, m_partEnding_6, m_found_6, m_from0_6, m_kind0_6)
  else
    gd (0 ≤ x3_13 ∧ x3_13 < 36) <|
    gd (0 ≤ (m_partEnding_6 (Int.toNat x3_13)) ∧ (m_partEnding_6 (Int.toNat x3_13)) < 8) <|
    some ((m_endSign (Int.toNat (m_partEnding_6 (Int.toNat x3_13)))), 0, m_isRead_6, m_isMade_6, m_table_6, m_reach_6, m_next_6, m_rest_6, m_ahead_6, m_parts_6, m_total_6, m_partFrom_6, m_partTo_6, m_partWord_6, m_partEnding_6, m_found_6, m_from0_6, m_kind0_6)
def m_X9_put_6 (x1 : Int) (x2 : Int) (x3 : Int) (x4 : Int) (m_choiceWord : Nat → Int) (m_choiceEnding : Nat → Int) (m_choiceCost : Nat → Int) (m_choices : Int) : Option (Nat × (Int)) :=
  gd (inI x4) <|
  if x4 ≤ 0 then
    some (1, x4)
  else
    gd (0 ≤ (x4 - 1) ∧ (x4 - 1) < 12) <|
    gd (inI (m_choiceCost (Int.toNat (x4 - 1)))) <|
    gd (inI x3) <|
    if (m_choiceCost (Int.toNat (x4 - 1))) ≤ x3 then
      some (1, x4)
    else
      vl (x4 + (-1)) fun x4_24 =>
      some (0, x4_24)
def m_X9_put_65 (x1 : Int) (x2 : Int) (x3 : Int) (x4 : Int) (x5 : Int) (m_choiceWord : Nat → Int) (m_choiceEnding : Nat → Int) (m_choiceCost : Nat → Int) (m_choices : Int) : Option (Nat × (Int × (Nat → Int) × (Nat → Int) × (Nat → Int))) :=
  gd (inI x5) <|
  gd (inI x4) <|
  if x5 ≤ x4 then
    some (1, (x5, m_choiceWord, m_choiceEnding, m_choiceCost))
  else
    gd (0 ≤ (x5 - 1) ∧ (x5 - 1) < 12) <|
    gd (0 ≤ x5 ∧ x5 < 12) <|
    vl (uz m_choiceWord (Int.toNat x5) (m_choiceWord (Int.toNat (x5 - 1)))) fun m_choiceWord_87 =>
    gd (0 ≤ (x5 - 1) ∧ (x5 - 1) < 12) <|
    gd (0 ≤ x5 ∧ x5 < 12) <|
    vl (uz m_choiceEnding (Int.toNat x5) (m_choiceEnding (Int.toNat (x5 - 1)))) fun m_choiceEnding_103 =>
    gd (0 ≤ (x5 - 1) ∧ (x5 - 1) < 12) <|
    gd (0 ≤ x5 ∧ x5 < 12) <|
    vl (uz m_choiceCost (Int.toNat x5) (m_choiceCost (Int.toNat (x5 - 1)))) fun m_choiceCost_119 =>
    vl (x5 + (-1)) fun x5_120 =>
    some (0, (x5_120, m_choiceWord_87, m_choiceEnding_103, m_choiceCost_119))
def m_X9_put_57 (x1 : Int) (x2 : Int) (x3 : Int) (x4 : Int) (m_choiceWord : Nat → Int) (m_choiceEnding : Nat → Int) (m_choiceCost : Nat → Int) (m_choices : Int) : Option ((Nat → Int) × (Nat → Int) × (Nat → Int) × Int) :=
  vl (m_choices - 1) fun x5_63 =>
  (zloop (fun a => m_X9_put_65 x1 x2 x3 x4 a.1 a.2.1 a.2.2.1 a.2.2.2 m_choices) FU (x5_63, m_choiceWord, m_choiceEnding, m_choiceCost)).bind fun (t_65, x5_65, m_choiceWord_65, m_choiceEnding_65, m_choiceCost_65) =>
  gd (0 ≤ x4 ∧ x4 < 12) <|
  vl (uz m_choiceWord_65 (Int.toNat x4) x1) fun m_choiceWord_133 =>
  gd (0 ≤ x4 ∧ x4 < 12) <|
  vl (uz m_choiceEnding_65 (Int.toNat x4) x2) fun m_choiceEnding_141 =>
  gd (0 ≤ x4 ∧ x4 < 12) <|
  vl (uz m_choiceCost_65 (Int.toNat x4) x3) fun m_choiceCost_149 =>
  some (m_choiceWord_133, m_choiceEnding_141, m_choiceCost_149, m_choices)
end
section
def m_X9_put_30 (x1 : Int) (x2 : Int) (x3 : Int) (x4 : Int) (m_choiceWord : Nat → Int) (m_choiceEnding : Nat → Int) (m_choiceCost : Nat → Int) (m_choices : Int) : Option ((Nat → Int) × (Nat → Int) × (Nat → Int) × Int) :=
  gd (inI x4) <|
  if x4 = 12 then
    some (m_choiceWord, m_choiceEnding, m_choiceCost, m_choices)
  else
    gd (inI m_choices) <|
    if 12 ≤ m_choices then
      m_X9_put_57 x1 x2 x3 x4 m_choiceWord m_choiceEnding m_choiceCost m_choices
    else
      vl (m_choices + 1) fun m_choices_54 =>
      m_X9_put_57 x1 x2 x3 x4 m_choiceWord m_choiceEnding m_choiceCost m_choices_54
def m_X9_put (x1 : Int) (x2 : Int) (x3 : Int) (m_choiceWord : Nat → Int) (m_choiceEnding : Nat → Int) (m_choiceCost : Nat → Int) (m_choices : Int) : Option ((Nat → Int) × (Nat → Int) × (Nat → Int) × Int) :=
  (zloop (fun a => m_X9_put_6 x1 x2 x3 a m_choiceWord m_choiceEnding m_choiceCost m_choices) FU m_choices).bind fun (t_6, x4_6) =>
  m_X9_put_30 x1 x2 x3 x4_6 m_choiceWord m_choiceEnding m_choiceCost m_choices
def m_X9_choose0_68 (x2 : Int) (x3 : Int) (x4 : Int) (x5 : Int) (t0 : Int) (t1 : Int) (m_kind : Nat → Int) (m_itsClass : Nat → Int) (m_count : Nat → Int) (m_endClass : Nat → Int) (m_endPrice : Nat → Int) (m_words : Int) (m_endings : Int) (m_guess : Int) (m_base : Int) (m_steps : Nat → Int) (m_pairs : Nat → Int) (m_n : Int) (m_breaks : Nat → Int) (m_table : Nat → Int) (m_rest : Nat → Int) (m_ahead : Nat → Int) (m_partFrom : Nat → Int) (m_partTo : Nat → Int) (m_choiceWord : Nat → Int) (m_choiceEnding : Nat → Int) (m_choiceCost : Nat → Int) (m_choices : Int) : Option (Nat × (Int × (Nat → Int) × (Nat → Int) × (Nat → Int) × Int)) :=
  gd (inI t0) <|
  gd (inI t1) <|
  if t1 ≤ t0 then
    some (1, (x5, m_choiceWord, m_choiceEnding, m_choiceCost, m_choices))
  else
    (m_X9_costOf x2 x3 x4 x5 m_itsClass m_count m_endClass m_endPrice m_guess m_base m_table).bind fun r_78 =>
    (m_X9_kindOf x4 m_kind).bind fun r_88 =>
    (m_X9_leastAhead x2 r_88 m_steps m_pairs m_ahead).bind fun r_91 =>
    (m_X9_kindOf x4 m_kind).bind fun r_104 =>
    (m_X9_at x3 r_104).bind fun r_107 =>
    gd (0 ≤ r_107 ∧ r_107 < 370) <|
    vl (m_rest (Int.toNat r_107)) fun x8_111 =>
    gd (inI r_78) <|
    if 134217728 ≤ r_78 then
      vl (x5 + 1) fun x5_162 =>
      some (0, (x5_162, m_choiceWord, m_choiceEnding, m_choiceCost, m_choices))
    else
      gd (inI r_91) <|
      if 134217728 ≤ r_91 then
        vl (x5 + 1) fun x5_162_v2 =>
        some (0, (x5_162_v2, m_choiceWord, m_choiceEnding, m_choiceCost, m_choices))
      else
        gd (inI x8_111) <|
        if 134217728 ≤ x8_111 then
          vl (x5 + 1) fun x5_162_v3 =>
          some (0, (x5_162_v3, m_choiceWord, m_choiceEnding, m_choiceCost, m_choices))
        else
          (m_X9_isLet x2 x3 m_n m_breaks).bind fun r_137 =>
          gd (inI r_137) <|
          if r_137 = 0 then
            vl (x5 + 1) fun x5_162_v5 =>
            some (0, (x5_162_v5, m_choiceWord, m_choiceEnding, m_choiceCost, m_choices))
          else
            (m_X9_put x4 x5 ((r_78 + r_91) + x8_111) m_choiceWord m_choiceEnding m_choiceCost m_choices).bind fun (m_choiceWord_159, m_choiceEnding_159, m_choiceCost_159, m_choices_159) =>
            vl (x5 + 1) fun x5_162_v4 =>
            some (0, (x5_162_v4, m_choiceWord_159, m_choiceEnding_159, m_choiceCost_159, m_choices_159))
def m_X9_choose0_51 (x2 : Int) (x3 : Int) (x4 : Int) (x5 : Int) (m_kind : Nat → Int) (m_itsClass : Nat → Int) (m_count : Nat → Int) (m_endClass : Nat → Int) (m_endPrice : Nat → Int) (m_words : Int) (m_endings : Int) (m_guess : Int) (m_base : Int) (m_steps : Nat → Int) (m_pairs : Nat → Int) (m_n : Int) (m_breaks : Nat → Int) (m_table : Nat → Int) (m_rest : Nat → Int) (m_ahead : Nat → Int) (m_partFrom : Nat → Int) (m_partTo : Nat → Int) (m_choiceWord : Nat → Int) (m_choiceEnding : Nat → Int) (m_choiceCost : Nat → Int) (m_choices : Int) : Option (Nat × (Int × (Nat → Int) × (Nat → Int) × (Nat → Int) × Int)) :=
  gd (inI x4) <|
  if x4 = 60 then
    m_X9_choose0_68 x2 x3 x4 x5 x5 0 m_kind m_itsClass m_count m_endClass m_endPrice m_words m_endings m_guess m_base m_steps m_pairs m_n m_breaks m_table m_rest m_ahead m_partFrom m_partTo m_choiceWord m_choiceEnding m_choiceCost m_choices
  else
    m_X9_choose0_68 x2 x3 x4 x5 x5 m_endings m_kind m_itsClass m_count m_endClass m_endPrice m_words m_endings m_guess m_base m_steps m_pairs m_n m_breaks m_table m_rest m_ahead m_partFrom m_partTo m_choiceWord m_choiceEnding m_choiceCost m_choices
def m_X9_choose0_48 (x2 : Int) (x3 : Int) (x4 : Int) (m_kind : Nat → Int) (m_itsClass : Nat → Int) (m_count : Nat → Int) (m_endClass : Nat → Int) (m_endPrice : Nat → Int) (m_words : Int) (m_endings : Int) (m_guess : Int) (m_base : Int) (m_steps : Nat → Int) (m_pairs : Nat → Int) (m_n : Int) (m_breaks : Nat → Int) (m_table : Nat → Int) (m_rest : Nat → Int) (m_ahead : Nat → Int) (m_partFrom : Nat → Int) (m_partTo : Nat → Int) (m_choiceWord : Nat → Int) (m_choiceEnding : Nat → Int) (m_choiceCost : Nat → Int) (m_choices : Int) : Option (Nat × (Int × (Nat → Int) × (Nat → Int) × (Nat → Int) × Int)) :=
  (zloop (fun a => m_X9_choose0_51 x2 x3 x4 a.1 m_kind m_itsClass m_count m_endClass m_endPrice m_words m_endings m_guess m_base m_steps m_pairs m_n m_breaks m_table m_rest m_ahead m_partFrom m_partTo a.2.1 a.2.2.1 a.2.2.2.1 a.2.2.2.2) FU ((-1), m_choiceWord, m_choiceEnding, m_choiceCost, m_choices)).bind fun (t_51, x5_51, m_choiceWord_51, m_choiceEnding_51, m_choiceCost_51, m_choices_51) =>
  vl (x4 + 1) fun x4_168_v2 =>
  some (0, (x4_168_v2, m_choiceWord_51, m_choiceEnding_51, m_choiceCost_51, m_choices_51))
def m_X9_choose0_22 (x2 : Int) (x3 : Int) (x4 : Int) (m_kind : Nat → Int) (m_itsClass : Nat → Int) (m_count : Nat → Int) (m_endClass : Nat → Int) (m_endPrice : Nat → Int) (m_words : Int) (m_endings : Int) (m_guess : Int) (m_base : Int) (m_steps : Nat → Int) (m_pairs : Nat → Int) (m_n : Int) (m_breaks : Nat → Int) (m_table : Nat → Int) (m_rest : Nat → Int) (m_ahead : Nat → Int) (m_partFrom : Nat → Int) (m_partTo : Nat → Int) (m_choiceWord : Nat → Int) (m_choiceEnding : Nat → Int) (m_choiceCost : Nat → Int) (m_choices : Int) : Option (Nat × (Int × (Nat → Int) × (Nat → Int) × (Nat → Int) × Int)) :=
  gd (inI x4) <|
  if 60 < x4 then
    some (1, (x4, m_choiceWord, m_choiceEnding, m_choiceCost, m_choices))
  else
    gd (inI m_words) <|
    if x4 < m_words then
      m_X9_choose0_48 x2 x3 x4 m_kind m_itsClass m_count m_endClass m_endPrice m_words m_endings m_guess m_base m_steps m_pairs m_n m_breaks m_table m_rest m_ahead m_partFrom m_partTo m_choiceWord m_choiceEnding m_choiceCost m_choices
    else
      if 60 ≤ x4 then
        m_X9_choose0_48 x2 x3 x4 m_kind m_itsClass m_count m_endClass m_endPrice m_words m_endings m_guess m_base m_steps m_pairs m_n m_breaks m_table m_rest m_ahead m_partFrom m_partTo m_choiceWord m_choiceEnding m_choiceCost m_choices
      else
        vl (x4 + 1) fun x4_168 =>
        some (0, (x4_168, m_choiceWord, m_choiceEnding, m_choiceCost, m_choices))
def m_X9_choose0 (x1 : Int) (m_kind : Nat → Int) (m_itsClass : Nat → Int) (m_count : Nat → Int) (m_endClass : Nat → Int) (m_endPrice : Nat → Int) (m_words : Int) (m_endings : Int) (m_guess : Int) (m_base : Int) (m_steps : Nat → Int) (m_pairs : Nat → Int) (m_n : Int) (m_breaks : Nat → Int) (m_table : Nat → Int) (m_rest : Nat → Int) (m_ahead : Nat → Int) (m_partFrom : Nat → Int) (m_partTo : Nat → Int) (m_choiceWord : Nat → Int) (m_choiceEnding : Nat → Int) (m_choiceCost : Nat → Int) (m_choices : Int) : Option ((Nat → Int) × (Nat → Int) × (Nat → Int) × Int) :=
  gd (0 ≤ x1 ∧ x1 < 36) <|
  vl (m_partFrom (Int.toNat x1)) fun x2_11 =>
  gd (0 ≤ x1 ∧ x1 < 36) <|
  vl (m_partTo (Int.toNat x1)) fun x3_18 =>
  (zloop (fun a => m_X9_choose0_22 x2_11 x3_18 a.1 m_kind m_itsClass m_count m_endClass m_endPrice m_words m_endings m_guess m_base m_steps m_pairs m_n m_breaks m_table m_rest m_ahead m_partFrom m_partTo a.2.1 a.2.2.1 a.2.2.2.1 a.2.2.2.2) FU (0, m_choiceWord, m_choiceEnding, m_choiceCost, 0)).bind fun (t_22, x4_22, m_choiceWord_22, m_choiceEnding_22, m_choiceCost_22, m_choices_22) =>
  some (m_choiceWord_22, m_choiceEnding_22, m_choiceCost_22, m_choices_22)
def m_X9_choices_21 (m_code : Int) (m_spellMany : Nat → Int) (m_spellPrice : Nat → Int) (m_spell : Nat → Int) (m_sounds : Nat → Int) (m_endSounds : Nat → Int) (m_kind : Nat → Int) (m_itsClass : Nat → Int) (m_count : Nat → Int) (m_endClass : Nat → Int) (m_endPrice : Nat → Int) (m_words : Int) (m_endings : Int) (m_slip : Int) (m_guess : Int) (m_base : Int) (m_steps : Nat → Int) (m_pairs : Nat → Int) (m_n : Int) (m_fixedMany : Int) (m_line : Nat → Int) (m_breaks : Nat → Int) (m_fixedFrom : Nat → Int) (m_fixedTo : Nat → Int) (m_fixedWord : Nat → Int) (m_fixedEnding : Nat → Int) (m_isRead : Int) (m_isMade : Int) (m_table : Nat → Int) (m_reach : Nat → Int) (m_next : Nat → Int) (m_rest : Nat → Int) (m_ahead : Nat → Int) (m_parts : Int) (m_total : Int) (m_partFrom : Nat → Int) (m_partTo : Nat → Int) (m_partWord : Nat → Int) (m_partEnding : Nat → Int) (m_found : Int) (m_from0 : Int) (m_kind0 : Int) (m_choiceWord : Nat → Int) (m_choiceEnding : Nat → Int) (m_choiceCost : Nat → Int) (m_choices : Int) : Option (Int × Int × Int × Int × (Nat → Int) × (Nat → Int) × (Nat → Int) × (Nat → Int) × (Nat → Int) × Int × Int × (Nat → Int) × (Nat → Int) × (Nat → Int) × (Nat → Int) × Int × Int × Int × (Nat → Int) × (Nat → Int) × (Nat → Int) × Int) :=
  (m_X9_fail m_code).bind fun (r_22, m_code_22) =>
  some (r_22, m_code_22, m_isRead, m_isMade, m_table, m_reach, m_next, m_rest, m_ahead, m_parts, m_total, m_partFrom, m_partTo, m_partWord, m_partEnding, m_found, m_from0, m_kind0, m_choiceWord, m_choiceEnding, m_choiceCost, m_choices)
def m_X9_choices (x1 : Int) (m_code : Int) (m_spellMany : Nat → Int) (m_spellPrice : Nat → Int) (m_spell : Nat → Int) (m_sounds : Nat → Int) (m_endSounds : Nat → Int) (m_kind : Nat → Int) (m_itsClass : Nat → Int) (m_count : Nat → Int) (m_endClass : Nat → Int) (m_endPrice : Nat → Int) (m_words : Int) (m_endings : Int) (m_slip : Int) (m_guess : Int) (m_base : Int) (m_steps : Nat → Int) (m_pairs : Nat → Int) (m_n : Int) (m_fixedMany : Int) (m_line : Nat → Int) (m_breaks : Nat → Int) (m_fixedFrom : Nat → Int) (m_fixedTo : Nat → Int) (m_fixedWord : Nat → Int) (m_fixedEnding : Nat → Int) (m_isRead : Int) (m_isMade : Int) (m_table : Nat → Int) (m_reach : Nat → Int) (m_next : Nat → Int) (m_rest : Nat → Int) (m_ahead : Nat → Int) (m_parts : Int) (m_total : Int) (m_partFrom : Nat → Int) (m_partTo : Nat → Int) (m_partWord : Nat → Int) (m_partEnding : Nat → Int) (m_found : Int) (m_from0 : Int) (m_kind0 : Int) (m_choiceWord : Nat → Int) (m_choiceEnding : Nat → Int) (m_choiceCost : Nat → Int) (m_choices : Int) : Option (Int × Int × Int × Int × (Nat → Int) × (Nat → Int) × (Nat → Int) × (Nat → Int) × (Nat → Int) × Int × Int × (Nat → Int) × (Nat → Int) × (Nat → Int) × (Nat → Int) × Int × Int × Int × (Nat → Int) × (Nat → Int) × (Nat → Int) × Int) :=
  (m_X9_read m_spellMany m_spellPrice m_spell m_sounds m_endSounds m_kind m_itsClass m_count m_endClass m_endPrice m_words m_endings m_slip m_guess m_base m_steps m_pairs m_n m_fixedMany m_line m_breaks m_fixedFrom m_fixedTo m_fixedWord m_fixedEnding m_isRead m_isMade m_table m_reach m_next m_rest m_ahead m_parts m_total m_partFrom m_partTo m_partWord m_partEnding m_found m_from0 m_kind0).bind fun (m_isRead_6, m_isMade_6, m_table_6, m_reach_6, m_next_6, m_rest_6, m_ahead_6, m_parts_6, m_total_6, m_partFrom_6, m_partTo_6, m_partWord_6, m_partEnding_6, m_found_6, m_from0_6, m_kind0_6) =>
  gd (inI x1) <|
  if x1 < 0 then
    m_X9_choices_21 0 m_spellMany m_spellPrice m_spell m_sounds m_endSounds m_kind m_itsClass m_count m_endClass m_endPrice m_words m_endings m_slip m_guess m_base m_steps m_pairs m_n m_fixedMany m_line m_breaks m_fixedFrom m_fixedTo m_fixedWord m_fixedEnding m_isRead_6 m_isMade_6 m_table_6 m_reach_6 m_next_6 m_rest_6 m_ahead_6 m_parts_6 m_total_6 m_partFrom_6 m_partTo_6 m_partWord_6 m_partEnding_6 m_found_6 m_from0_6 m_kind0_6 m_choiceWord m_choiceEnding m_choiceCost m_choices
  else
    gd (inI m_parts_6) <|
    if x1 < m_parts_6 then
      (m_X9_choose0 x1 m_kind m_itsClass m_count m_endClass m_endPrice m_words m_endings m_guess m_base m_steps m_pairs m_n m_breaks m_table_6 m_rest_6 m_ahead_6 m_partFrom_6 m_partTo_6 m_choiceWord m_choiceEnding m_choiceCost m_choices).bind fun (m_choiceWord_28, m_choiceEnding_28, m_choiceCost_28, m_choices_28) =>
      some (m_choices_28, 0, m_isRead_6, m_isMade_6, m_table_6, m_reach_6, m_next_6, m_rest_6, m_ahead_6, m_parts_6, m_total_6, m_partFrom_6, m_partTo_6, m_partWord_6, m_partEnding_6, m_found_6, m_from0_6, m_kind0_6, m_choiceWord_28, m_choiceEnding_28, m_choiceCost_28, m_choices_28)
    else
      m_X9_choices_21 0 m_spellMany m_spellPrice m_spell m_sounds m_endSounds m_kind m_itsClass m_count m_endClass m_endPrice m_words m_endings m_slip m_guess m_base m_steps m_pairs m_n m_fixedMany m_line m_breaks m_fixedFrom m_fixedTo m_fixedWord m_fixedEnding m_isRead_6 m_isMade_6 m_table_6 m_reach_6 m_next_6 m_rest_6 m_ahead_6 m_parts_6 m_total_6 m_partFrom_6 m_partTo_6 m_partWord_6 m_partEnding_6 m_found_6 m_from0_6 m_kind0_6 m_choiceWord m_choiceEnding m_choiceCost m_choices
def m_X9_choice_30 (m_code : Int) (m_spellMany : Nat → Int) (m_spellPrice : Nat → Int) (m_spell : Nat → Int) (m_sounds : Nat → Int) (m_endSounds : Nat → Int) (m_kind : Nat → Int) (m_itsClass : Nat → Int) (m_count : Nat → Int) (m_endClass : Nat → Int) (m_endPrice : Nat → Int) (m_words : Int) (m_endings : Int) (m_slip : Int) (m_guess : Int) (m_base : Int) (m_steps : Nat → Int) (m_pairs : Nat → Int) (m_n : Int) (m_fixedMany : Int) (m_line : Nat → Int) (m_breaks : Nat → Int) (m_fixedFrom : Nat → Int) (m_fixedTo : Nat → Int) (m_fixedWord : Nat → Int) (m_fixedEnding : Nat → Int) (m_isRead : Int) (m_isMade : Int) (m_table : Nat → Int) (m_reach : Nat → Int) (m_next : Nat → Int) (m_rest : Nat → Int) (m_ahead : Nat → Int) (m_parts : Int) (m_total : Int) (m_partFrom : Nat → Int) (m_partTo : Nat → Int) (m_partWord : Nat → Int) (m_partEnding : Nat → Int) (m_found : Int) (m_from0 : Int) (m_kind0 : Int) (m_choiceWord : Nat → Int) (m_choiceEnding : Nat → Int) (m_choiceCost : Nat → Int) (m_choices : Int) : Option (Int × Int × Int × Int × (Nat → Int) × (Nat → Int) × (Nat → Int) × (Nat → Int) × (Nat → Int) × Int × Int × (Nat → Int) × (Nat → Int) × (Nat → Int) × (Nat → Int) × Int × Int × Int × (Nat → Int) × (Nat → Int) × (Nat → Int) × Int) :=
  (m_X9_fail m_code).bind fun (r_31, m_code_31) =>
  some (r_31, m_code_31, m_isRead, m_isMade, m_table, m_reach, m_next, m_rest, m_ahead, m_parts, m_total, m_partFrom, m_partTo, m_partWord, m_partEnding, m_found, m_from0, m_kind0, m_choiceWord, m_choiceEnding, m_choiceCost, m_choices)
def m_X9_choice_52 (m_code : Int) (m_spellMany : Nat → Int) (m_spellPrice : Nat → Int) (m_spell : Nat → Int) (m_sounds : Nat → Int) (m_endSounds : Nat → Int) (m_kind : Nat → Int) (m_itsClass : Nat → Int) (m_count : Nat → Int) (m_endClass : Nat → Int) (m_endPrice : Nat → Int) (m_words : Int) (m_endings : Int) (m_slip : Int) (m_guess : Int) (m_base : Int) (m_steps : Nat → Int) (m_pairs : Nat → Int) (m_n : Int) (m_fixedMany : Int) (m_line : Nat → Int) (m_breaks : Nat → Int) (m_fixedFrom : Nat → Int) (m_fixedTo : Nat → Int) (m_fixedWord : Nat → Int) (m_fixedEnding : Nat → Int) (m_isRead : Int) (m_isMade : Int) (m_table : Nat → Int) (m_reach : Nat → Int) (m_next : Nat → Int) (m_rest : Nat → Int) (m_ahead : Nat → Int) (m_parts : Int) (m_total : Int) (m_partFrom : Nat → Int) (m_partTo : Nat → Int) (m_partWord : Nat → Int) (m_partEnding : Nat → Int) (m_found : Int) (m_from0 : Int) (m_kind0 : Int) (m_choiceWord : Nat → Int) (m_choiceEnding : Nat → Int) (m_choiceCost : Nat → Int) (m_choices : Int) : Option (Int × Int × Int × Int × (Nat → Int) × (Nat → Int) × (Nat → Int) × (Nat → Int) × (Nat → Int) × Int × Int × (Nat → Int) × (Nat → Int) × (Nat → Int) × (Nat → Int) × Int × Int × Int × (Nat → Int) × (Nat → Int) × (Nat → Int) × Int) :=
  (m_X9_fail m_code).bind fun (r_53, m_code_53) =>
  some (r_53, m_code_53, m_isRead, m_isMade, m_table, m_reach, m_next, m_rest, m_ahead, m_parts, m_total, m_partFrom, m_partTo, m_partWord, m_partEnding, m_found, m_from0, m_kind0, m_choiceWord, m_choiceEnding, m_choiceCost, m_choices)
def m_X9_choice (x1 : Int) (x2 : Int) (x3 : Int) (m_code : Int) (m_spellMany : Nat → Int) (m_spellPrice : Nat → Int) (m_spell : Nat → Int) (m_sounds : Nat → Int) (m_endSounds : Nat → Int) (m_kind : Nat → Int) (m_itsClass : Nat → Int) (m_count : Nat → Int) (m_endClass : Nat → Int) (m_endPrice : Nat → Int) (m_words : Int) (m_endings : Int) (m_slip : Int) (m_guess : Int) (m_base : Int) (m_steps : Nat → Int) (m_pairs : Nat → Int) (m_n : Int) (m_fixedMany : Int) (m_line : Nat → Int) (m_breaks : Nat → Int) (m_fixedFrom : Nat → Int) (m_fixedTo : Nat → Int) (m_fixedWord : Nat → Int) (m_fixedEnding : Nat → Int) (m_isRead : Int) (m_isMade : Int) (m_table : Nat → Int) (m_reach : Nat → Int) (m_next : Nat → Int) (m_rest : Nat → Int) (m_ahead : Nat → Int) (m_parts : Int) (m_total : Int) (m_partFrom : Nat → Int) (m_partTo : Nat → Int) (m_partWord : Nat → Int) (m_partEnding : Nat → Int) (m_found : Int) (m_from0 : Int) (m_kind0 : Int) (m_choiceWord : Nat → Int) (m_choiceEnding : Nat → Int) (m_choiceCost : Nat → Int) (m_choices : Int) : Option (Int × Int × Int × Int × (Nat → Int) × (Nat → Int) × (Nat → Int) × (Nat → Int) × (Nat → Int) × Int × Int × (Nat → Int) × (Nat → Int) × (Nat → Int) × (Nat → Int) × Int × Int × Int × (Nat → Int) × (Nat → Int) × (Nat → Int) × Int) :=
  (m_X9_read m_spellMany m_spellPrice m_spell m_sounds m_endSounds m_kind m_itsClass m_count m_endClass m_endPrice m_words m_endings m_slip m_guess m_base m_steps m_pairs m_n m_fixedMany m_line m_breaks m_fixedFrom m_fixedTo m_fixedWord m_fixedEnding m_isRead m_isMade m_table m_reach m_next m_rest m_ahead m_parts m_total m_partFrom m_partTo m_partWord m_partEnding m_found m_from0 m_kind0).bind fun (m_isRead_6, m_isMade_6, m_table_6, m_reach_6, m_next_6, m_rest_6, m_ahead_6, m_parts_6, m_total_6, m_partFrom_6, m_partTo_6, m_partWord_6, m_partEnding_6, m_found_6, m_from0_6, m_kind0_6) =>
  gd (inI x1) <|
  if x1 < 0 then
    m_X9_choice_30 0 m_spellMany m_spellPrice m_spell m_sounds m_endSounds m_kind m_itsClass m_count m_endClass m_endPrice m_words m_endings m_slip m_guess m_base m_steps m_pairs m_n m_fixedMany m_line m_breaks m_fixedFrom m_fixedTo m_fixedWord m_fixedEnding m_isRead_6 m_isMade_6 m_table_6 m_reach_6 m_next_6 m_rest_6 m_ahead_6 m_parts_6 m_total_6 m_partFrom_6 m_partTo_6 m_partWord_6 m_partEnding_6 m_found_6 m_from0_6 m_kind0_6 m_choiceWord m_choiceEnding m_choiceCost m_choices
  else
    gd (inI m_parts_6) <|
    if m_parts_6 ≤ x1 then
      m_X9_choice_30 0 m_spellMany m_spellPrice m_spell m_sounds m_endSounds m_kind m_itsClass m_count m_endClass m_endPrice m_words m_endings m_slip m_guess m_base m_steps m_pairs m_n m_fixedMany m_line m_breaks m_fixedFrom m_fixedTo m_fixedWord m_fixedEnding m_isRead_6 m_isMade_6 m_table_6 m_reach_6 m_next_6 m_rest_6 m_ahead_6 m_parts_6 m_total_6 m_partFrom_6 m_partTo_6 m_partWord_6 m_partEnding_6 m_found_6 m_from0_6 m_kind0_6 m_choiceWord m_choiceEnding m_choiceCost m_choices
    else
      gd (inI x3) <|
      if x3 < 0 then
        m_X9_choice_30 0 m_spellMany m_spellPrice m_spell m_sounds m_endSounds m_kind m_itsClass m_count m_endClass m_endPrice m_words m_endings m_slip m_guess m_base m_steps m_pairs m_n m_fixedMany m_line m_breaks m_fixedFrom m_fixedTo m_fixedWord m_fixedEnding m_isRead_6 m_isMade_6 m_table_6 m_reach_6 m_next_6 m_rest_6 m_ahead_6 m_parts_6 m_total_6 m_partFrom_6 m_partTo_6 m_partWord_6 m_partEnding_6 m_found_6 m_from0_6 m_kind0_6 m_choiceWord m_choiceEnding m_choiceCost m_choices
      else
        if x3 ≤ 2 then
          (m_X9_choose0 x1 m_kind m_itsClass m_count m_endClass m_endPrice m_words m_endings m_guess m_base m_steps m_pairs m_n m_breaks m_table_6 m_rest_6 m_ahead_6 m_partFrom_6 m_partTo_6 m_choiceWord m_choiceEnding m_choiceCost m_choices).bind fun (m_choiceWord_37, m_choiceEnding_37, m_choiceCost_37, m_choices_37) =>
          gd (inI x2) <|
          if x2 < 0 then
            m_X9_choice_52 0 m_spellMany m_spellPrice m_spell m_sounds m_endSounds m_kind m_itsClass m_count m_endClass m_endPrice m_words m_endings m_slip m_guess m_base m_steps m_pairs m_n m_fixedMany m_line m_breaks m_fixedFrom m_fixedTo m_fixedWord m_fixedEnding m_isRead_6 m_isMade_6 m_table_6 m_reach_6 m_next_6 m_rest_6 m_ahead_6 m_parts_6 m_total_6 m_partFrom_6 m_partTo_6 m_partWord_6 m_partEnding_6 m_found_6 m_from0_6 m_kind0_6 m_choiceWord_37 m_choiceEnding_37 m_choiceCost_37 m_choices_37
          else
            gd (inI m_choices_37) <|
            if x2 < m_choices_37 then
              if x3 = 0 then
                gd (0 ≤ x2 ∧ x2 < 12) <|
                gd (inI (m_choiceWord_37 (Int.toNat x2))) <|
                if (m_choiceWord_37 (Int.toNat x2)) = 60 then
                  some ((-1), 0, m_isRead_6, m_isMade_6, m_table_6, m_reach_6, m_next_6, m_rest_6, m_ahead_6, m_parts_6, m_total_6, m_partFrom_6, m_partTo_6, m_partWord_6, m_partEnding_6, m_found_6, m_from0_6, m_kind0_6, m_choiceWord_37, m_choiceEnding_37, m_choiceCost_37, m_choices_37)
                else
                  gd (0 ≤ x2 ∧ x2 < 12) <|
                  some ((m_choiceWord_37 (Int.toNat x2)), 0, m_isRead_6, m_isMade_6, m_table_6, m_reach_6, m_next_6, m_rest_6, m_ahead_6, m_parts_6, m_total_6, m_partFrom_6, m_partTo_6, m_partWord_6, m_partEnding_6, m_found_6, m_from0_6, m_kind0_6, m_choiceWord_37, m_choiceEnding_37, m_choiceCost_37, m_choices_37)
              else
                if x3 = 1 then
                  gd (0 ≤ x2 ∧ x2 < 12) <|
                  some ((m_choiceEnding_37 (Int.toNat x2)), 0, m_isRead_6, m_isMade_6, m_table_6, m_reach_6, m_next_6, m_rest_6, m_ahead_6, m_parts_6, m_total_6, m_partFrom_6, m_partTo_6, m_partWord_6, m_partEnding_6, m_found_6, m_from0_6, m_kind0_6, m_choiceWord_37, m_choiceEnding_37, m_choiceCost_37, m_choices_37)
                else
                  gd (0 ≤ x2 ∧ x2 < 12) <|
                  some ((m_choiceCost_37 (Int.toNat x2)), 0, m_isRead_6, m_isMade_6, m_table_6, m_reach_6, m_next_6, m_rest_6, m_ahead_6, m_parts_6, m_total_6, m_partFrom_6, m_partTo_6, m_partWord_6, m_partEnding_6, m_found_6, m_from0_6, m_kind0_6, m_choiceWord_37, m_choiceEnding_37, m_choiceCost_37, m_choices_37)
            else
              m_X9_choice_52 0 m_spellMany m_spellPrice m_spell m_sounds m_endSounds m_kind m_itsClass m_count m_endClass m_endPrice m_words m_endings m_slip m_guess m_base m_steps m_pairs m_n m_fixedMany m_line m_breaks m_fixedFrom m_fixedTo m_fixedWord m_fixedEnding m_isRead_6 m_isMade_6 m_table_6 m_reach_6 m_next_6 m_rest_6 m_ahead_6 m_parts_6 m_total_6 m_partFrom_6 m_partTo_6 m_partWord_6 m_partEnding_6 m_found_6 m_from0_6 m_kind0_6 m_choiceWord_37 m_choiceEnding_37 m_choiceCost_37 m_choices_37
        else
          m_X9_choice_30 0 m_spellMany m_spellPrice m_spell m_sounds m_endSounds m_kind m_itsClass m_count m_endClass m_endPrice m_words m_endings m_slip m_guess m_base m_steps m_pairs m_n m_fixedMany m_line m_breaks m_fixedFrom m_fixedTo m_fixedWord m_fixedEnding m_isRead_6 m_isMade_6 m_table_6 m_reach_6 m_next_6 m_rest_6 m_ahead_6 m_parts_6 m_total_6 m_partFrom_6 m_partTo_6 m_partWord_6 m_partEnding_6 m_found_6 m_from0_6 m_kind0_6 m_choiceWord m_choiceEnding m_choiceCost m_choices
def m_X9_keepFixed (x1 : Int) (x2 : Int) (m_fixedFrom : Nat → Int) (m_fixedTo : Nat → Int) (m_fixedWord : Nat → Int) (m_fixedEnding : Nat → Int) : Option ((Nat → Int) × (Nat → Int) × (Nat → Int) × (Nat → Int)) :=
  gd (0 ≤ x1 ∧ x1 < 36) <|
  gd (0 ≤ x2 ∧ x2 < 36) <|
  vl (uz m_fixedFrom (Int.toNat x2) (m_fixedFrom (Int.toNat x1))) fun m_fixedFrom_11 =>
  gd (0 ≤ x1 ∧ x1 < 36) <|
  gd (0 ≤ x2 ∧ x2 < 36) <|
  vl (uz m_fixedTo (Int.toNat x2) (m_fixedTo (Int.toNat x1))) fun m_fixedTo_23 =>
  gd (0 ≤ x1 ∧ x1 < 36) <|
  gd (0 ≤ x2 ∧ x2 < 36) <|
  vl (uz m_fixedWord (Int.toNat x2) (m_fixedWord (Int.toNat x1))) fun m_fixedWord_35 =>
  gd (0 ≤ x1 ∧ x1 < 36) <|
  gd (0 ≤ x2 ∧ x2 < 36) <|
  vl (uz m_fixedEnding (Int.toNat x2) (m_fixedEnding (Int.toNat x1))) fun m_fixedEnding_47 =>
  some (m_fixedFrom_11, m_fixedTo_23, m_fixedWord_35, m_fixedEnding_47)
def m_X9_unfix_39 (x1 : Int) (x2 : Int) (x3 : Int) (x4 : Int) (m_fixedMany : Int) (m_fixedFrom : Nat → Int) (m_fixedTo : Nat → Int) (m_fixedWord : Nat → Int) (m_fixedEnding : Nat → Int) : Option (Nat × (Int × Int × (Nat → Int) × (Nat → Int) × (Nat → Int) × (Nat → Int))) :=
  (m_X9_keepFixed x4 x3 m_fixedFrom m_fixedTo m_fixedWord m_fixedEnding).bind fun (m_fixedFrom_43, m_fixedTo_43, m_fixedWord_43, m_fixedEnding_43) =>
  vl (x3 + 1) fun x3_46 =>
  vl (x4 + 1) fun x4_49_v2 =>
  some (0, (x3_46, x4_49_v2, m_fixedFrom_43, m_fixedTo_43, m_fixedWord_43, m_fixedEnding_43))
def m_X9_unfix_5 (x1 : Int) (x2 : Int) (x3 : Int) (x4 : Int) (m_fixedMany : Int) (m_fixedFrom : Nat → Int) (m_fixedTo : Nat → Int) (m_fixedWord : Nat → Int) (m_fixedEnding : Nat → Int) : Option (Nat × (Int × Int × (Nat → Int) × (Nat → Int) × (Nat → Int) × (Nat → Int))) :=
  gd (inI x4) <|
  gd (inI m_fixedMany) <|
  if m_fixedMany ≤ x4 then
    some (1, (x3, x4, m_fixedFrom, m_fixedTo, m_fixedWord, m_fixedEnding))
  else
    gd (0 ≤ x4 ∧ x4 < 36) <|
    gd (inI (m_fixedFrom (Int.toNat x4))) <|
    gd (inI x2) <|
    if x2 ≤ (m_fixedFrom (Int.toNat x4)) then
      m_X9_unfix_39 x1 x2 x3 x4 m_fixedMany m_fixedFrom m_fixedTo m_fixedWord m_fixedEnding
    else
      gd (0 ≤ x4 ∧ x4 < 36) <|
      gd (inI (m_fixedTo (Int.toNat x4))) <|
      gd (inI x1) <|
      if (m_fixedTo (Int.toNat x4)) ≤ x1 then
        m_X9_unfix_39 x1 x2 x3 x4 m_fixedMany m_fixedFrom m_fixedTo m_fixedWord m_fixedEnding
      else
        vl (x4 + 1) fun x4_49 =>
        some (0, (x3, x4_49, m_fixedFrom, m_fixedTo, m_fixedWord, m_fixedEnding))
def m_X9_unfix (x1 : Int) (x2 : Int) (m_fixedMany : Int) (m_fixedFrom : Nat → Int) (m_fixedTo : Nat → Int) (m_fixedWord : Nat → Int) (m_fixedEnding : Nat → Int) : Option (Int × (Nat → Int) × (Nat → Int) × (Nat → Int) × (Nat → Int)) :=
  (zloop (fun a => m_X9_unfix_5 x1 x2 a.1 a.2.1 m_fixedMany a.2.2.1 a.2.2.2.1 a.2.2.2.2.1 a.2.2.2.2.2) FU (0, 0, m_fixedFrom, m_fixedTo, m_fixedWord, m_fixedEnding)).bind fun (t_5, x3_5, x4_5, m_fixedFrom_5, m_fixedTo_5, m_fixedWord_5, m_fixedEnding_5) =>
  some (x3_5, m_fixedFrom_5, m_fixedTo_5, m_fixedWord_5, m_fixedEnding_5)
def m_X9_unfixEnds_4 (x1 : Int) (x2 : Int) (x3 : Int) (m_fixedMany : Int) (m_fixedFrom : Nat → Int) (m_fixedTo : Nat → Int) (m_fixedWord : Nat → Int) (m_fixedEnding : Nat → Int) : Option (Nat × (Int × Int × (Nat → Int) × (Nat → Int) × (Nat → Int) × (Nat → Int))) :=
  gd (inI x3) <|
  gd (inI m_fixedMany) <|
  if m_fixedMany ≤ x3 then
    some (1, (x2, x3, m_fixedFrom, m_fixedTo, m_fixedWord, m_fixedEnding))
  else
    gd (0 ≤ x3 ∧ x3 < 36) <|
    gd (inI (m_fixedFrom (Int.toNat x3))) <|
    gd (inI x1) <|
    if (m_fixedFrom (Int.toNat x3)) = x1 then
      vl (x3 + 1) fun x3_44 =>
      some (0, (x2, x3_44, m_fixedFrom, m_fixedTo, m_fixedWord, m_fixedEnding))
    else
      gd (0 ≤ x3 ∧ x3 < 36) <|
      gd (inI (m_fixedTo (Int.toNat x3))) <|
      if (m_fixedTo (Int.toNat x3)) = x1 then
        vl (x3 + 1) fun x3_44_v3 =>
        some (0, (x2, x3_44_v3, m_fixedFrom, m_fixedTo, m_fixedWord, m_fixedEnding))
      else
        (m_X9_keepFixed x3 x2 m_fixedFrom m_fixedTo m_fixedWord m_fixedEnding).bind fun (m_fixedFrom_38, m_fixedTo_38, m_fixedWord_38, m_fixedEnding_38) =>
        vl (x2 + 1) fun x2_41 =>
        vl (x3 + 1) fun x3_44_v2 =>
        some (0, (x2_41, x3_44_v2, m_fixedFrom_38, m_fixedTo_38, m_fixedWord_38, m_fixedEnding_38))
def m_X9_unfixEnds (x1 : Int) (m_fixedMany : Int) (m_fixedFrom : Nat → Int) (m_fixedTo : Nat → Int) (m_fixedWord : Nat → Int) (m_fixedEnding : Nat → Int) : Option (Int × (Nat → Int) × (Nat → Int) × (Nat → Int) × (Nat → Int)) :=
  (zloop (fun a => m_X9_unfixEnds_4 x1 a.1 a.2.1 m_fixedMany a.2.2.1 a.2.2.2.1 a.2.2.2.2.1 a.2.2.2.2.2) FU (0, 0, m_fixedFrom, m_fixedTo, m_fixedWord, m_fixedEnding)).bind fun (t_4, x2_4, x3_4, m_fixedFrom_4, m_fixedTo_4, m_fixedWord_4, m_fixedEnding_4) =>
  some (x2_4, m_fixedFrom_4, m_fixedTo_4, m_fixedWord_4, m_fixedEnding_4)
def m_X9_unfixOver_35 (x1 : Int) (x2 : Int) (x3 : Int) (m_fixedMany : Int) (m_fixedFrom : Nat → Int) (m_fixedTo : Nat → Int) (m_fixedWord : Nat → Int) (m_fixedEnding : Nat → Int) : Option (Nat × (Int × Int × (Nat → Int) × (Nat → Int) × (Nat → Int) × (Nat → Int))) :=
  (m_X9_keepFixed x3 x2 m_fixedFrom m_fixedTo m_fixedWord m_fixedEnding).bind fun (m_fixedFrom_38, m_fixedTo_38, m_fixedWord_38, m_fixedEnding_38) =>
  vl (x2 + 1) fun x2_41 =>
  vl (x3 + 1) fun x3_44_v2 =>
  some (0, (x2_41, x3_44_v2, m_fixedFrom_38, m_fixedTo_38, m_fixedWord_38, m_fixedEnding_38))
def m_X9_unfixOver_4 (x1 : Int) (x2 : Int) (x3 : Int) (m_fixedMany : Int) (m_fixedFrom : Nat → Int) (m_fixedTo : Nat → Int) (m_fixedWord : Nat → Int) (m_fixedEnding : Nat → Int) : Option (Nat × (Int × Int × (Nat → Int) × (Nat → Int) × (Nat → Int) × (Nat → Int))) :=
  gd (inI x3) <|
  gd (inI m_fixedMany) <|
  if m_fixedMany ≤ x3 then
    some (1, (x2, x3, m_fixedFrom, m_fixedTo, m_fixedWord, m_fixedEnding))
  else
    gd (0 ≤ x3 ∧ x3 < 36) <|
    gd (inI (m_fixedFrom (Int.toNat x3))) <|
    gd (inI x1) <|
    if x1 ≤ (m_fixedFrom (Int.toNat x3)) then
      m_X9_unfixOver_35 x1 x2 x3 m_fixedMany m_fixedFrom m_fixedTo m_fixedWord m_fixedEnding
    else
      gd (0 ≤ x3 ∧ x3 < 36) <|
      gd (inI (m_fixedTo (Int.toNat x3))) <|
      if (m_fixedTo (Int.toNat x3)) ≤ x1 then
        m_X9_unfixOver_35 x1 x2 x3 m_fixedMany m_fixedFrom m_fixedTo m_fixedWord m_fixedEnding
      else
        vl (x3 + 1) fun x3_44 =>
        some (0, (x2, x3_44, m_fixedFrom, m_fixedTo, m_fixedWord, m_fixedEnding))
def m_X9_unfixOver (x1 : Int) (m_fixedMany : Int) (m_fixedFrom : Nat → Int) (m_fixedTo : Nat → Int) (m_fixedWord : Nat → Int) (m_fixedEnding : Nat → Int) : Option (Int × (Nat → Int) × (Nat → Int) × (Nat → Int) × (Nat → Int)) :=
  (zloop (fun a => m_X9_unfixOver_4 x1 a.1 a.2.1 m_fixedMany a.2.2.1 a.2.2.2.1 a.2.2.2.2.1 a.2.2.2.2.2) FU (0, 0, m_fixedFrom, m_fixedTo, m_fixedWord, m_fixedEnding)).bind fun (t_4, x2_4, x3_4, m_fixedFrom_4, m_fixedTo_4, m_fixedWord_4, m_fixedEnding_4) =>
  some (x2_4, m_fixedFrom_4, m_fixedTo_4, m_fixedWord_4, m_fixedEnding_4)
def m_X9_choose_170 (x4 : Int) (x5 : Int) (m_code : Int) (m_spellMany : Nat → Int) (m_spellPrice : Nat → Int) (m_spell : Nat → Int) (m_sounds : Nat → Int) (m_endSounds : Nat → Int) (m_kind : Nat → Int) (m_itsClass : Nat → Int) (m_count : Nat → Int) (m_endClass : Nat → Int) (m_endPrice : Nat → Int) (m_words : Int) (m_endings : Int) (m_slip : Int) (m_guess : Int) (m_base : Int) (m_steps : Nat → Int) (m_pairs : Nat → Int) (m_n : Int) (m_fixedMany : Int) (m_line : Nat → Int) (m_breaks : Nat → Int) (m_fixedFrom : Nat → Int) (m_fixedTo : Nat → Int) (m_fixedWord : Nat → Int) (m_fixedEnding : Nat → Int) (m_acts : Int) (m_oldN : Nat → Int) (m_oldFixed : Nat → Int) (m_oldLine : Nat → Int) (m_oldBreaks : Nat → Int) (m_oldFrom : Nat → Int) (m_oldTo : Nat → Int) (m_oldWord : Nat → Int) (m_oldEnding : Nat → Int) (m_isRead : Int) (m_isMade : Int) (m_table : Nat → Int) (m_reach : Nat → Int) (m_next : Nat → Int) (m_rest : Nat → Int) (m_ahead : Nat → Int) (m_parts : Int) (m_total : Int) (m_partFrom : Nat → Int) (m_partTo : Nat → Int) (m_partWord : Nat → Int) (m_partEnding : Nat → Int) (m_found : Int) (m_from0 : Int) (m_kind0 : Int) (m_choiceWord : Nat → Int) (m_choiceEnding : Nat → Int) (m_choiceCost : Nat → Int) (m_choices : Int) : Option (Nat × (Int × (Nat → Int))) :=
  gd (inI x5) <|
  gd (inI x4) <|
  if x4 ≤ x5 then
    some (1, (x5, m_breaks))
  else
    gd (0 ≤ x5 ∧ x5 < 37) <|
    vl (uz m_breaks (Int.toNat x5) 2) fun m_breaks_184 =>
    vl (x5 + 1) fun x5_185 =>
    some (0, (x5_185, m_breaks_184))
def m_X9_choose_165 (x3 : Int) (x4 : Int) (m_code : Int) (m_spellMany : Nat → Int) (m_spellPrice : Nat → Int) (m_spell : Nat → Int) (m_sounds : Nat → Int) (m_endSounds : Nat → Int) (m_kind : Nat → Int) (m_itsClass : Nat → Int) (m_count : Nat → Int) (m_endClass : Nat → Int) (m_endPrice : Nat → Int) (m_words : Int) (m_endings : Int) (m_slip : Int) (m_guess : Int) (m_base : Int) (m_steps : Nat → Int) (m_pairs : Nat → Int) (m_n : Int) (m_fixedMany : Int) (m_line : Nat → Int) (m_breaks : Nat → Int) (m_fixedFrom : Nat → Int) (m_fixedTo : Nat → Int) (m_fixedWord : Nat → Int) (m_fixedEnding : Nat → Int) (m_acts : Int) (m_oldN : Nat → Int) (m_oldFixed : Nat → Int) (m_oldLine : Nat → Int) (m_oldBreaks : Nat → Int) (m_oldFrom : Nat → Int) (m_oldTo : Nat → Int) (m_oldWord : Nat → Int) (m_oldEnding : Nat → Int) (m_isRead : Int) (m_isMade : Int) (m_table : Nat → Int) (m_reach : Nat → Int) (m_next : Nat → Int) (m_rest : Nat → Int) (m_ahead : Nat → Int) (m_parts : Int) (m_total : Int) (m_partFrom : Nat → Int) (m_partTo : Nat → Int) (m_partWord : Nat → Int) (m_partEnding : Nat → Int) (m_found : Int) (m_from0 : Int) (m_kind0 : Int) (m_choiceWord : Nat → Int) (m_choiceEnding : Nat → Int) (m_choiceCost : Nat → Int) (m_choices : Int) : Option (Int × Int × (Nat → Int) × (Nat → Int) × (Nat → Int) × (Nat → Int) × (Nat → Int) × Int × (Nat → Int) × (Nat → Int) × (Nat → Int) × (Nat → Int) × (Nat → Int) × (Nat → Int) × (Nat → Int) × (Nat → Int) × Int × Int × (Nat → Int) × (Nat → Int) × (Nat → Int) × (Nat → Int) × (Nat → Int) × Int × Int × (Nat → Int) × (Nat → Int) × (Nat → Int) × (Nat → Int) × Int × Int × Int × (Nat → Int) × (Nat → Int) × (Nat → Int) × Int) :=
  vl (x3 + 1) fun x5_168 =>
  (zloop (fun a => m_X9_choose_170 x4 a.1 m_code m_spellMany m_spellPrice m_spell m_sounds m_endSounds m_kind m_itsClass m_count m_endClass m_endPrice m_words m_endings m_slip m_guess m_base m_steps m_pairs m_n m_fixedMany m_line a.2 m_fixedFrom m_fixedTo m_fixedWord m_fixedEnding m_acts m_oldN m_oldFixed m_oldLine m_oldBreaks m_oldFrom m_oldTo m_oldWord m_oldEnding m_isRead m_isMade m_table m_reach m_next m_rest m_ahead m_parts m_total m_partFrom m_partTo m_partWord m_partEnding m_found m_from0 m_kind0 m_choiceWord m_choiceEnding m_choiceCost m_choices) FU (x5_168, m_breaks)).bind fun (t_170, x5_170, m_breaks_170) =>
  some (m_code, m_fixedMany, m_breaks_170, m_fixedFrom, m_fixedTo, m_fixedWord, m_fixedEnding, m_acts, m_oldN, m_oldFixed, m_oldLine, m_oldBreaks, m_oldFrom, m_oldTo, m_oldWord, m_oldEnding, m_isRead, m_isMade, m_table, m_reach, m_next, m_rest, m_ahead, m_parts, m_total, m_partFrom, m_partTo, m_partWord, m_partEnding, m_found, m_from0, m_kind0, m_choiceWord, m_choiceEnding, m_choiceCost, m_choices)
def m_X9_choose_148 (x3 : Int) (x4 : Int) (m_code : Int) (m_spellMany : Nat → Int) (m_spellPrice : Nat → Int) (m_spell : Nat → Int) (m_sounds : Nat → Int) (m_endSounds : Nat → Int) (m_kind : Nat → Int) (m_itsClass : Nat → Int) (m_count : Nat → Int) (m_endClass : Nat → Int) (m_endPrice : Nat → Int) (m_words : Int) (m_endings : Int) (m_slip : Int) (m_guess : Int) (m_base : Int) (m_steps : Nat → Int) (m_pairs : Nat → Int) (m_n : Int) (m_fixedMany : Int) (m_line : Nat → Int) (m_breaks : Nat → Int) (m_fixedFrom : Nat → Int) (m_fixedTo : Nat → Int) (m_fixedWord : Nat → Int) (m_fixedEnding : Nat → Int) (m_acts : Int) (m_oldN : Nat → Int) (m_oldFixed : Nat → Int) (m_oldLine : Nat → Int) (m_oldBreaks : Nat → Int) (m_oldFrom : Nat → Int) (m_oldTo : Nat → Int) (m_oldWord : Nat → Int) (m_oldEnding : Nat → Int) (m_isRead : Int) (m_isMade : Int) (m_table : Nat → Int) (m_reach : Nat → Int) (m_next : Nat → Int) (m_rest : Nat → Int) (m_ahead : Nat → Int) (m_parts : Int) (m_total : Int) (m_partFrom : Nat → Int) (m_partTo : Nat → Int) (m_partWord : Nat → Int) (m_partEnding : Nat → Int) (m_found : Int) (m_from0 : Int) (m_kind0 : Int) (m_choiceWord : Nat → Int) (m_choiceEnding : Nat → Int) (m_choiceCost : Nat → Int) (m_choices : Int) : Option (Int × Int × (Nat → Int) × (Nat → Int) × (Nat → Int) × (Nat → Int) × (Nat → Int) × Int × (Nat → Int) × (Nat → Int) × (Nat → Int) × (Nat → Int) × (Nat → Int) × (Nat → Int) × (Nat → Int) × (Nat → Int) × Int × Int × (Nat → Int) × (Nat → Int) × (Nat → Int) × (Nat → Int) × (Nat → Int) × Int × Int × (Nat → Int) × (Nat → Int) × (Nat → Int) × (Nat → Int) × Int × Int × Int × (Nat → Int) × (Nat → Int) × (Nat → Int) × Int) :=
  gd (inI x4) <|
  gd (inI m_n) <|
  if m_n ≤ x4 then
    m_X9_choose_165 x3 x4 m_code m_spellMany m_spellPrice m_spell m_sounds m_endSounds m_kind m_itsClass m_count m_endClass m_endPrice m_words m_endings m_slip m_guess m_base m_steps m_pairs m_n m_fixedMany m_line m_breaks m_fixedFrom m_fixedTo m_fixedWord m_fixedEnding m_acts m_oldN m_oldFixed m_oldLine m_oldBreaks m_oldFrom m_oldTo m_oldWord m_oldEnding m_isRead m_isMade m_table m_reach m_next m_rest m_ahead m_parts m_total m_partFrom m_partTo m_partWord m_partEnding m_found m_from0 m_kind0 m_choiceWord m_choiceEnding m_choiceCost m_choices
  else
    gd (0 ≤ x4 ∧ x4 < 37) <|
    vl (uz m_breaks (Int.toNat x4) 1) fun m_breaks_164 =>
    m_X9_choose_165 x3 x4 m_code m_spellMany m_spellPrice m_spell m_sounds m_endSounds m_kind m_itsClass m_count m_endClass m_endPrice m_words m_endings m_slip m_guess m_base m_steps m_pairs m_n m_fixedMany m_line m_breaks_164 m_fixedFrom m_fixedTo m_fixedWord m_fixedEnding m_acts m_oldN m_oldFixed m_oldLine m_oldBreaks m_oldFrom m_oldTo m_oldWord m_oldEnding m_isRead m_isMade m_table m_reach m_next m_rest m_ahead m_parts m_total m_partFrom m_partTo m_partWord m_partEnding m_found m_from0 m_kind0 m_choiceWord m_choiceEnding m_choiceCost m_choices
def m_X9_choose (x1 : Int) (x2 : Int) (m_code : Int) (m_spellMany : Nat → Int) (m_spellPrice : Nat → Int) (m_spell : Nat → Int) (m_sounds : Nat → Int) (m_endSounds : Nat → Int) (m_kind : Nat → Int) (m_itsClass : Nat → Int) (m_count : Nat → Int) (m_endClass : Nat → Int) (m_endPrice : Nat → Int) (m_words : Int) (m_endings : Int) (m_slip : Int) (m_guess : Int) (m_base : Int) (m_steps : Nat → Int) (m_pairs : Nat → Int) (m_n : Int) (m_fixedMany : Int) (m_line : Nat → Int) (m_breaks : Nat → Int) (m_fixedFrom : Nat → Int) (m_fixedTo : Nat → Int) (m_fixedWord : Nat → Int) (m_fixedEnding : Nat → Int) (m_acts : Int) (m_oldN : Nat → Int) (m_oldFixed : Nat → Int) (m_oldLine : Nat → Int) (m_oldBreaks : Nat → Int) (m_oldFrom : Nat → Int) (m_oldTo : Nat → Int) (m_oldWord : Nat → Int) (m_oldEnding : Nat → Int) (m_isRead : Int) (m_isMade : Int) (m_table : Nat → Int) (m_reach : Nat → Int) (m_next : Nat → Int) (m_rest : Nat → Int) (m_ahead : Nat → Int) (m_parts : Int) (m_total : Int) (m_partFrom : Nat → Int) (m_partTo : Nat → Int) (m_partWord : Nat → Int) (m_partEnding : Nat → Int) (m_found : Int) (m_from0 : Int) (m_kind0 : Int) (m_choiceWord : Nat → Int) (m_choiceEnding : Nat → Int) (m_choiceCost : Nat → Int) (m_choices : Int) : Option (Int × Int × (Nat → Int) × (Nat → Int) × (Nat → Int) × (Nat → Int) × (Nat → Int) × Int × (Nat → Int) × (Nat → Int) × (Nat → Int) × (Nat → Int) × (Nat → Int) × (Nat → Int) × (Nat → Int) × (Nat → Int) × Int × Int × (Nat → Int) × (Nat → Int) × (Nat → Int) × (Nat → Int) × (Nat → Int) × Int × Int × (Nat → Int) × (Nat → Int) × (Nat → Int) × (Nat → Int) × Int × Int × Int × (Nat → Int) × (Nat → Int) × (Nat → Int) × Int) :=
  (m_X9_read m_spellMany m_spellPrice m_spell m_sounds m_endSounds m_kind m_itsClass m_count m_endClass m_endPrice m_words m_endings m_slip m_guess m_base m_steps m_pairs m_n m_fixedMany m_line m_breaks m_fixedFrom m_fixedTo m_fixedWord m_fixedEnding m_isRead m_isMade m_table m_reach m_next m_rest m_ahead m_parts m_total m_partFrom m_partTo m_partWord m_partEnding m_found m_from0 m_kind0).bind fun (m_isRead_6, m_isMade_6, m_table_6, m_reach_6, m_next_6, m_rest_6, m_ahead_6, m_parts_6, m_total_6, m_partFrom_6, m_partTo_6, m_partWord_6, m_partEnding_6, m_found_6, m_from0_6, m_kind0_6) =>
  gd (inI x1) <|
  if x1 < 0 then
    some (1, m_fixedMany, m_breaks, m_fixedFrom, m_fixedTo, m_fixedWord, m_fixedEnding, m_acts, m_oldN, m_oldFixed, m_oldLine, m_oldBreaks, m_oldFrom, m_oldTo, m_oldWord, m_oldEnding, m_isRead_6, m_isMade_6, m_table_6, m_reach_6, m_next_6, m_rest_6, m_ahead_6, m_parts_6, m_total_6, m_partFrom_6, m_partTo_6, m_partWord_6, m_partEnding_6, m_found_6, m_from0_6, m_kind0_6, m_choiceWord, m_choiceEnding, m_choiceCost, m_choices)
  else
    gd (inI m_parts_6) <|
    if x1 < m_parts_6 then
      (m_X9_choose0 x1 m_kind m_itsClass m_count m_endClass m_endPrice m_words m_endings m_guess m_base m_steps m_pairs m_n m_breaks m_table_6 m_rest_6 m_ahead_6 m_partFrom_6 m_partTo_6 m_choiceWord m_choiceEnding m_choiceCost m_choices).bind fun (m_choiceWord_29, m_choiceEnding_29, m_choiceCost_29, m_choices_29) =>
      gd (inI x2) <|
      if x2 < 0 then
        some (1, m_fixedMany, m_breaks, m_fixedFrom, m_fixedTo, m_fixedWord, m_fixedEnding, m_acts, m_oldN, m_oldFixed, m_oldLine, m_oldBreaks, m_oldFrom, m_oldTo, m_oldWord, m_oldEnding, m_isRead_6, m_isMade_6, m_table_6, m_reach_6, m_next_6, m_rest_6, m_ahead_6, m_parts_6, m_total_6, m_partFrom_6, m_partTo_6, m_partWord_6, m_partEnding_6, m_found_6, m_from0_6, m_kind0_6, m_choiceWord_29, m_choiceEnding_29, m_choiceCost_29, m_choices_29)
      else
        gd (inI m_choices_29) <|
        if x2 < m_choices_29 then
          (m_X9_act m_n m_fixedMany m_line m_breaks m_fixedFrom m_fixedTo m_fixedWord m_fixedEnding m_acts m_oldN m_oldFixed m_oldLine m_oldBreaks m_oldFrom m_oldTo m_oldWord m_oldEnding m_isRead_6).bind fun (m_acts_51, m_oldN_51, m_oldFixed_51, m_oldLine_51, m_oldBreaks_51, m_oldFrom_51, m_oldTo_51, m_oldWord_51, m_oldEnding_51, m_isRead_51) =>
          gd (0 ≤ x1 ∧ x1 < 36) <|
          vl (m_partFrom_6 (Int.toNat x1)) fun x3_60 =>
          gd (0 ≤ x1 ∧ x1 < 36) <|
          vl (m_partTo_6 (Int.toNat x1)) fun x4_67 =>
          (m_X9_unfix x3_60 x4_67 m_fixedMany m_fixedFrom m_fixedTo m_fixedWord m_fixedEnding).bind fun (m_fixedMany_73, m_fixedFrom_73, m_fixedTo_73, m_fixedWord_73, m_fixedEnding_73) =>
          gd (0 ≤ m_fixedMany_73 ∧ m_fixedMany_73 < 36) <|
          vl (uz m_fixedFrom_73 (Int.toNat m_fixedMany_73) x3_60) fun m_fixedFrom_85 =>
          gd (0 ≤ m_fixedMany_73 ∧ m_fixedMany_73 < 36) <|
          vl (uz m_fixedTo_73 (Int.toNat m_fixedMany_73) x4_67) fun m_fixedTo_96 =>
          gd (0 ≤ x2 ∧ x2 < 12) <|
          gd (0 ≤ m_fixedMany_73 ∧ m_fixedMany_73 < 36) <|
          vl (uz m_fixedWord_73 (Int.toNat m_fixedMany_73) (m_choiceWord_29 (Int.toNat x2))) fun m_fixedWord_111 =>
          gd (0 ≤ x2 ∧ x2 < 12) <|
          gd (0 ≤ m_fixedMany_73 ∧ m_fixedMany_73 < 36) <|
          vl (uz m_fixedEnding_73 (Int.toNat m_fixedMany_73) (m_choiceEnding_29 (Int.toNat x2))) fun m_fixedEnding_126 =>
          vl (m_fixedMany_73 + 1) fun m_fixedMany_134 =>
          gd (inI x3_60) <|
          if x3_60 ≤ 0 then
            m_X9_choose_148 x3_60 x4_67 0 m_spellMany m_spellPrice m_spell m_sounds m_endSounds m_kind m_itsClass m_count m_endClass m_endPrice m_words m_endings m_slip m_guess m_base m_steps m_pairs m_n m_fixedMany_134 m_line m_breaks m_fixedFrom_85 m_fixedTo_96 m_fixedWord_111 m_fixedEnding_126 m_acts_51 m_oldN_51 m_oldFixed_51 m_oldLine_51 m_oldBreaks_51 m_oldFrom_51 m_oldTo_51 m_oldWord_51 m_oldEnding_51 m_isRead_51 m_isMade_6 m_table_6 m_reach_6 m_next_6 m_rest_6 m_ahead_6 m_parts_6 m_total_6 m_partFrom_6 m_partTo_6 m_partWord_6 m_partEnding_6 m_found_6 m_from0_6 m_kind0_6 m_choiceWord_29 m_choiceEnding_29 m_choiceCost_29 m_choices_29
          else
            gd (0 ≤ x3_60 ∧ x3_60 < 37) <|
            vl (uz m_breaks (Int.toNat x3_60) 1) fun m_breaks_147 =>
            m_X9_choose_148 x3_60 x4_67 0 m_spellMany m_spellPrice m_spell m_sounds m_endSounds m_kind m_itsClass m_count m_endClass m_endPrice m_words m_endings m_slip m_guess m_base m_steps m_pairs m_n m_fixedMany_134 m_line m_breaks_147 m_fixedFrom_85 m_fixedTo_96 m_fixedWord_111 m_fixedEnding_126 m_acts_51 m_oldN_51 m_oldFixed_51 m_oldLine_51 m_oldBreaks_51 m_oldFrom_51 m_oldTo_51 m_oldWord_51 m_oldEnding_51 m_isRead_51 m_isMade_6 m_table_6 m_reach_6 m_next_6 m_rest_6 m_ahead_6 m_parts_6 m_total_6 m_partFrom_6 m_partTo_6 m_partWord_6 m_partEnding_6 m_found_6 m_from0_6 m_kind0_6 m_choiceWord_29 m_choiceEnding_29 m_choiceCost_29 m_choices_29
        else
          some (1, m_fixedMany, m_breaks, m_fixedFrom, m_fixedTo, m_fixedWord, m_fixedEnding, m_acts, m_oldN, m_oldFixed, m_oldLine, m_oldBreaks, m_oldFrom, m_oldTo, m_oldWord, m_oldEnding, m_isRead_6, m_isMade_6, m_table_6, m_reach_6, m_next_6, m_rest_6, m_ahead_6, m_parts_6, m_total_6, m_partFrom_6, m_partTo_6, m_partWord_6, m_partEnding_6, m_found_6, m_from0_6, m_kind0_6, m_choiceWord_29, m_choiceEnding_29, m_choiceCost_29, m_choices_29)
    else
      some (1, m_fixedMany, m_breaks, m_fixedFrom, m_fixedTo, m_fixedWord, m_fixedEnding, m_acts, m_oldN, m_oldFixed, m_oldLine, m_oldBreaks, m_oldFrom, m_oldTo, m_oldWord, m_oldEnding, m_isRead_6, m_isMade_6, m_table_6, m_reach_6, m_next_6, m_rest_6, m_ahead_6, m_parts_6, m_total_6, m_partFrom_6, m_partTo_6, m_partWord_6, m_partEnding_6, m_found_6, m_from0_6, m_kind0_6, m_choiceWord, m_choiceEnding, m_choiceCost, m_choices)
def m_X9_setBreak_27 (m_code : Int) (m_n : Int) (m_fixedMany : Int) (m_line : Nat → Int) (m_breaks : Nat → Int) (m_fixedFrom : Nat → Int) (m_fixedTo : Nat → Int) (m_fixedWord : Nat → Int) (m_fixedEnding : Nat → Int) (m_acts : Int) (m_oldN : Nat → Int) (m_oldFixed : Nat → Int) (m_oldLine : Nat → Int) (m_oldBreaks : Nat → Int) (m_oldFrom : Nat → Int) (m_oldTo : Nat → Int) (m_oldWord : Nat → Int) (m_oldEnding : Nat → Int) (m_isRead : Int) : Option (Int × Int × Int × (Nat → Int) × (Nat → Int) × (Nat → Int) × (Nat → Int) × (Nat → Int) × Int × (Nat → Int) × (Nat → Int) × (Nat → Int) × (Nat → Int) × (Nat → Int) × (Nat → Int) × (Nat → Int) × (Nat → Int) × Int) :=
  (m_X9_fail m_code).bind fun (r_28, m_code_28) =>
  some (r_28, m_code_28, m_fixedMany, m_breaks, m_fixedFrom, m_fixedTo, m_fixedWord, m_fixedEnding, m_acts, m_oldN, m_oldFixed, m_oldLine, m_oldBreaks, m_oldFrom, m_oldTo, m_oldWord, m_oldEnding, m_isRead)
def m_X9_setBreak_60 (x1 : Int) (x2 : Int) (x3 : Int) (m_code : Int) (m_n : Int) (m_fixedMany : Int) (m_line : Nat → Int) (m_breaks : Nat → Int) (m_fixedFrom : Nat → Int) (m_fixedTo : Nat → Int) (m_fixedWord : Nat → Int) (m_fixedEnding : Nat → Int) (m_acts : Int) (m_oldN : Nat → Int) (m_oldFixed : Nat → Int) (m_oldLine : Nat → Int) (m_oldBreaks : Nat → Int) (m_oldFrom : Nat → Int) (m_oldTo : Nat → Int) (m_oldWord : Nat → Int) (m_oldEnding : Nat → Int) (m_isRead : Int) : Option (Int × Int × Int × (Nat → Int) × (Nat → Int) × (Nat → Int) × (Nat → Int) × (Nat → Int) × Int × (Nat → Int) × (Nat → Int) × (Nat → Int) × (Nat → Int) × (Nat → Int) × (Nat → Int) × (Nat → Int) × (Nat → Int) × Int) :=
  gd (inI x2) <|
  if x2 = 1 then
    some (x3, m_code, m_fixedMany, m_breaks, m_fixedFrom, m_fixedTo, m_fixedWord, m_fixedEnding, m_acts, m_oldN, m_oldFixed, m_oldLine, m_oldBreaks, m_oldFrom, m_oldTo, m_oldWord, m_oldEnding, m_isRead)
  else
    (m_X9_unfixEnds x1 m_fixedMany m_fixedFrom m_fixedTo m_fixedWord m_fixedEnding).bind fun (m_fixedMany_67, m_fixedFrom_67, m_fixedTo_67, m_fixedWord_67, m_fixedEnding_67) =>
    some (x3, m_code, m_fixedMany_67, m_breaks, m_fixedFrom_67, m_fixedTo_67, m_fixedWord_67, m_fixedEnding_67, m_acts, m_oldN, m_oldFixed, m_oldLine, m_oldBreaks, m_oldFrom, m_oldTo, m_oldWord, m_oldEnding, m_isRead)
def m_X9_setBreak (x1 : Int) (x2 : Int) (m_code : Int) (m_n : Int) (m_fixedMany : Int) (m_line : Nat → Int) (m_breaks : Nat → Int) (m_fixedFrom : Nat → Int) (m_fixedTo : Nat → Int) (m_fixedWord : Nat → Int) (m_fixedEnding : Nat → Int) (m_acts : Int) (m_oldN : Nat → Int) (m_oldFixed : Nat → Int) (m_oldLine : Nat → Int) (m_oldBreaks : Nat → Int) (m_oldFrom : Nat → Int) (m_oldTo : Nat → Int) (m_oldWord : Nat → Int) (m_oldEnding : Nat → Int) (m_isRead : Int) : Option (Int × Int × Int × (Nat → Int) × (Nat → Int) × (Nat → Int) × (Nat → Int) × (Nat → Int) × Int × (Nat → Int) × (Nat → Int) × (Nat → Int) × (Nat → Int) × (Nat → Int) × (Nat → Int) × (Nat → Int) × (Nat → Int) × Int) :=
  gd (inI x1) <|
  if x1 < 1 then
    m_X9_setBreak_27 0 m_n m_fixedMany m_line m_breaks m_fixedFrom m_fixedTo m_fixedWord m_fixedEnding m_acts m_oldN m_oldFixed m_oldLine m_oldBreaks m_oldFrom m_oldTo m_oldWord m_oldEnding m_isRead
  else
    gd (inI m_n) <|
    if m_n ≤ x1 then
      m_X9_setBreak_27 0 m_n m_fixedMany m_line m_breaks m_fixedFrom m_fixedTo m_fixedWord m_fixedEnding m_acts m_oldN m_oldFixed m_oldLine m_oldBreaks m_oldFrom m_oldTo m_oldWord m_oldEnding m_isRead
    else
      gd (inI x2) <|
      if x2 < 0 then
        m_X9_setBreak_27 0 m_n m_fixedMany m_line m_breaks m_fixedFrom m_fixedTo m_fixedWord m_fixedEnding m_acts m_oldN m_oldFixed m_oldLine m_oldBreaks m_oldFrom m_oldTo m_oldWord m_oldEnding m_isRead
      else
        if x2 ≤ 2 then
          (m_X9_act m_n m_fixedMany m_line m_breaks m_fixedFrom m_fixedTo m_fixedWord m_fixedEnding m_acts m_oldN m_oldFixed m_oldLine m_oldBreaks m_oldFrom m_oldTo m_oldWord m_oldEnding m_isRead).bind fun (m_acts_33, m_oldN_33, m_oldFixed_33, m_oldLine_33, m_oldBreaks_33, m_oldFrom_33, m_oldTo_33, m_oldWord_33, m_oldEnding_33, m_isRead_33) =>
          gd (0 ≤ x1 ∧ x1 < 37) <|
          vl (m_breaks (Int.toNat x1)) fun x3_42 =>
          gd (0 ≤ x1 ∧ x1 < 37) <|
          vl (uz m_breaks (Int.toNat x1) x2) fun m_breaks_49 =>
          if x2 = 2 then
            m_X9_setBreak_60 x1 x2 x3_42 0 m_n m_fixedMany m_line m_breaks_49 m_fixedFrom m_fixedTo m_fixedWord m_fixedEnding m_acts_33 m_oldN_33 m_oldFixed_33 m_oldLine_33 m_oldBreaks_33 m_oldFrom_33 m_oldTo_33 m_oldWord_33 m_oldEnding_33 m_isRead_33
          else
            (m_X9_unfixOver x1 m_fixedMany m_fixedFrom m_fixedTo m_fixedWord m_fixedEnding).bind fun (m_fixedMany_57, m_fixedFrom_57, m_fixedTo_57, m_fixedWord_57, m_fixedEnding_57) =>
            m_X9_setBreak_60 x1 x2 x3_42 0 m_n m_fixedMany_57 m_line m_breaks_49 m_fixedFrom_57 m_fixedTo_57 m_fixedWord_57 m_fixedEnding_57 m_acts_33 m_oldN_33 m_oldFixed_33 m_oldLine_33 m_oldBreaks_33 m_oldFrom_33 m_oldTo_33 m_oldWord_33 m_oldEnding_33 m_isRead_33
        else
          m_X9_setBreak_27 0 m_n m_fixedMany m_line m_breaks m_fixedFrom m_fixedTo m_fixedWord m_fixedEnding m_acts m_oldN m_oldFixed m_oldLine m_oldBreaks m_oldFrom m_oldTo m_oldWord m_oldEnding m_isRead
def m_X9_freeHand_7 (x1 : Int) (m_fixedMany : Int) (m_breaks : Nat → Int) : Option (Nat × (Int × (Nat → Int))) :=
  gd (inI x1) <|
  if 36 < x1 then
    some (1, (x1, m_breaks))
  else
    gd (0 ≤ x1 ∧ x1 < 37) <|
    vl (uz m_breaks (Int.toNat x1) 0) fun m_breaks_19 =>
    vl (x1 + 1) fun x1_20 =>
    some (0, (x1_20, m_breaks_19))
def m_X9_freeHand (m_fixedMany : Int) (m_breaks : Nat → Int) : Option (Int × (Nat → Int)) :=
  (zloop (fun a => m_X9_freeHand_7 a.1 0 a.2) FU (0, m_breaks)).bind fun (t_7, x1_7, m_breaks_7) =>
  some (0, m_breaks_7)
def m_X9_free (m_code : Int) (m_n : Int) (m_fixedMany : Int) (m_line : Nat → Int) (m_breaks : Nat → Int) (m_fixedFrom : Nat → Int) (m_fixedTo : Nat → Int) (m_fixedWord : Nat → Int) (m_fixedEnding : Nat → Int) (m_acts : Int) (m_oldN : Nat → Int) (m_oldFixed : Nat → Int) (m_oldLine : Nat → Int) (m_oldBreaks : Nat → Int) (m_oldFrom : Nat → Int) (m_oldTo : Nat → Int) (m_oldWord : Nat → Int) (m_oldEnding : Nat → Int) (m_isRead : Int) : Option (Int × Int × Int × (Nat → Int) × Int × (Nat → Int) × (Nat → Int) × (Nat → Int) × (Nat → Int) × (Nat → Int) × (Nat → Int) × (Nat → Int) × (Nat → Int) × Int) :=
  (m_X9_act m_n m_fixedMany m_line m_breaks m_fixedFrom m_fixedTo m_fixedWord m_fixedEnding m_acts m_oldN m_oldFixed m_oldLine m_oldBreaks m_oldFrom m_oldTo m_oldWord m_oldEnding m_isRead).bind fun (m_acts_6, m_oldN_6, m_oldFixed_6, m_oldLine_6, m_oldBreaks_6, m_oldFrom_6, m_oldTo_6, m_oldWord_6, m_oldEnding_6, m_isRead_6) =>
  (m_X9_freeHand m_fixedMany m_breaks).bind fun (m_fixedMany_15, m_breaks_15) =>
  some (m_fixedMany, 0, m_fixedMany_15, m_breaks_15, m_acts_6, m_oldN_6, m_oldFixed_6, m_oldLine_6, m_oldBreaks_6, m_oldFrom_6, m_oldTo_6, m_oldWord_6, m_oldEnding_6, m_isRead_6)
def m_X9_empty (m_code : Int) (m_n : Int) (m_fixedMany : Int) (m_line : Nat → Int) (m_breaks : Nat → Int) (m_fixedFrom : Nat → Int) (m_fixedTo : Nat → Int) (m_fixedWord : Nat → Int) (m_fixedEnding : Nat → Int) (m_acts : Int) (m_oldN : Nat → Int) (m_oldFixed : Nat → Int) (m_oldLine : Nat → Int) (m_oldBreaks : Nat → Int) (m_oldFrom : Nat → Int) (m_oldTo : Nat → Int) (m_oldWord : Nat → Int) (m_oldEnding : Nat → Int) (m_isRead : Int) (m_isMade : Int) : Option (Int × Int × Int × Int × (Nat → Int) × Int × (Nat → Int) × (Nat → Int) × (Nat → Int) × (Nat → Int) × (Nat → Int) × (Nat → Int) × (Nat → Int) × (Nat → Int) × Int × Int) :=
  (m_X9_act m_n m_fixedMany m_line m_breaks m_fixedFrom m_fixedTo m_fixedWord m_fixedEnding m_acts m_oldN m_oldFixed m_oldLine m_oldBreaks m_oldFrom m_oldTo m_oldWord m_oldEnding m_isRead).bind fun (m_acts_6, m_oldN_6, m_oldFixed_6, m_oldLine_6, m_oldBreaks_6, m_oldFrom_6, m_oldTo_6, m_oldWord_6, m_oldEnding_6, m_isRead_6) =>
  (m_X9_freeHand m_fixedMany m_breaks).bind fun (m_fixedMany_20, m_breaks_20) =>
  (m_X9_changed m_isRead_6 m_isMade).bind fun (m_isRead_24, m_isMade_24) =>
  some (m_n, 0, 0, m_fixedMany_20, m_breaks_20, m_acts_6, m_oldN_6, m_oldFixed_6, m_oldLine_6, m_oldBreaks_6, m_oldFrom_6, m_oldTo_6, m_oldWord_6, m_oldEnding_6, m_isRead_24, m_isMade_24)
def m_X9_back_56 (x1 : Int) (m_code : Int) (m_n : Int) (m_fixedMany : Int) (m_line : Nat → Int) (m_breaks : Nat → Int) (m_fixedFrom : Nat → Int) (m_fixedTo : Nat → Int) (m_fixedWord : Nat → Int) (m_fixedEnding : Nat → Int) (m_acts : Int) (m_oldN : Nat → Int) (m_oldFixed : Nat → Int) (m_oldLine : Nat → Int) (m_oldBreaks : Nat → Int) (m_oldFrom : Nat → Int) (m_oldTo : Nat → Int) (m_oldWord : Nat → Int) (m_oldEnding : Nat → Int) (m_isRead : Int) (m_isMade : Int) : Option (Nat × (Int × (Nat → Int) × (Nat → Int) × (Nat → Int) × (Nat → Int) × (Nat → Int))) :=
  gd (inI x1) <|
  if 36 ≤ x1 then
    some (1, (x1, m_line, m_fixedFrom, m_fixedTo, m_fixedWord, m_fixedEnding))
  else
    gd (0 ≤ ((36 * m_acts) + x1) ∧ ((36 * m_acts) + x1) < 2880) <|
    gd (0 ≤ x1 ∧ x1 < 36) <|
    vl (uz m_line (Int.toNat x1) (m_oldLine (Int.toNat ((36 * m_acts) + x1)))) fun m_line_81 =>
    gd (0 ≤ ((36 * m_acts) + x1) ∧ ((36 * m_acts) + x1) < 2880) <|
    gd (0 ≤ x1 ∧ x1 < 36) <|
    vl (uz m_fixedFrom (Int.toNat x1) (m_oldFrom (Int.toNat ((36 * m_acts) + x1)))) fun m_fixedFrom_101 =>
    gd (0 ≤ ((36 * m_acts) + x1) ∧ ((36 * m_acts) + x1) < 2880) <|
    gd (0 ≤ x1 ∧ x1 < 36) <|
    vl (uz m_fixedTo (Int.toNat x1) (m_oldTo (Int.toNat ((36 * m_acts) + x1)))) fun m_fixedTo_121 =>
    gd (0 ≤ ((36 * m_acts) + x1) ∧ ((36 * m_acts) + x1) < 2880) <|
    gd (0 ≤ x1 ∧ x1 < 36) <|
    vl (uz m_fixedWord (Int.toNat x1) (m_oldWord (Int.toNat ((36 * m_acts) + x1)))) fun m_fixedWord_141 =>
    gd (0 ≤ ((36 * m_acts) + x1) ∧ ((36 * m_acts) + x1) < 2880) <|
    gd (0 ≤ x1 ∧ x1 < 36) <|
    vl (uz m_fixedEnding (Int.toNat x1) (m_oldEnding (Int.toNat ((36 * m_acts) + x1)))) fun m_fixedEnding_161 =>
    vl (x1 + 1) fun x1_162 =>
    some (0, (x1_162, m_line_81, m_fixedFrom_101, m_fixedTo_121, m_fixedWord_141, m_fixedEnding_161))
def m_X9_back_170 (x1 : Int) (m_code : Int) (m_n : Int) (m_fixedMany : Int) (m_line : Nat → Int) (m_breaks : Nat → Int) (m_fixedFrom : Nat → Int) (m_fixedTo : Nat → Int) (m_fixedWord : Nat → Int) (m_fixedEnding : Nat → Int) (m_acts : Int) (m_oldN : Nat → Int) (m_oldFixed : Nat → Int) (m_oldLine : Nat → Int) (m_oldBreaks : Nat → Int) (m_oldFrom : Nat → Int) (m_oldTo : Nat → Int) (m_oldWord : Nat → Int) (m_oldEnding : Nat → Int) (m_isRead : Int) (m_isMade : Int) : Option (Nat × (Int × (Nat → Int))) :=
  gd (inI x1) <|
  if 36 < x1 then
    some (1, (x1, m_breaks))
  else
    gd (0 ≤ ((37 * m_acts) + x1) ∧ ((37 * m_acts) + x1) < 2960) <|
    gd (0 ≤ x1 ∧ x1 < 37) <|
    vl (uz m_breaks (Int.toNat x1) (m_oldBreaks (Int.toNat ((37 * m_acts) + x1)))) fun m_breaks_195 =>
    vl (x1 + 1) fun x1_196 =>
    some (0, (x1_196, m_breaks_195))
def m_X9_back (m_code : Int) (m_n : Int) (m_fixedMany : Int) (m_line : Nat → Int) (m_breaks : Nat → Int) (m_fixedFrom : Nat → Int) (m_fixedTo : Nat → Int) (m_fixedWord : Nat → Int) (m_fixedEnding : Nat → Int) (m_acts : Int) (m_oldN : Nat → Int) (m_oldFixed : Nat → Int) (m_oldLine : Nat → Int) (m_oldBreaks : Nat → Int) (m_oldFrom : Nat → Int) (m_oldTo : Nat → Int) (m_oldWord : Nat → Int) (m_oldEnding : Nat → Int) (m_isRead : Int) (m_isMade : Int) : Option (Int × Int × Int × Int × (Nat → Int) × (Nat → Int) × (Nat → Int) × (Nat → Int) × (Nat → Int) × (Nat → Int) × Int × Int × Int) :=
  gd (inI m_acts) <|
  if m_acts = 0 then
    some (0, 0, m_n, m_fixedMany, m_line, m_breaks, m_fixedFrom, m_fixedTo, m_fixedWord, m_fixedEnding, m_acts, m_isRead, m_isMade)
  else
    vl (m_acts - 1) fun m_acts_21 =>
    (m_X9_changed m_isRead m_isMade).bind fun (m_isRead_25, m_isMade_25) =>
    gd (0 ≤ m_acts_21 ∧ m_acts_21 < 80) <|
    vl (m_oldN (Int.toNat m_acts_21)) fun m_n_38 =>
    gd (0 ≤ m_acts_21 ∧ m_acts_21 < 80) <|
    vl (m_oldFixed (Int.toNat m_acts_21)) fun m_fixedMany_51 =>
    (zloop (fun a => m_X9_back_56 a.1 0 m_n_38 m_fixedMany_51 a.2.1 m_breaks a.2.2.1 a.2.2.2.1 a.2.2.2.2.1 a.2.2.2.2.2 m_acts_21 m_oldN m_oldFixed m_oldLine m_oldBreaks m_oldFrom m_oldTo m_oldWord m_oldEnding m_isRead_25 m_isMade_25) FU (0, m_line, m_fixedFrom, m_fixedTo, m_fixedWord, m_fixedEnding)).bind fun (t_56, x1_56, m_line_56, m_fixedFrom_56, m_fixedTo_56, m_fixedWord_56, m_fixedEnding_56) =>
    (zloop (fun a => m_X9_back_170 a.1 0 m_n_38 m_fixedMany_51 m_line_56 a.2 m_fixedFrom_56 m_fixedTo_56 m_fixedWord_56 m_fixedEnding_56 m_acts_21 m_oldN m_oldFixed m_oldLine m_oldBreaks m_oldFrom m_oldTo m_oldWord m_oldEnding m_isRead_25 m_isMade_25) FU (0, m_breaks)).bind fun (t_170, x1_170, m_breaks_170) =>
    some (1, 0, m_n_38, m_fixedMany_51, m_line_56, m_breaks_170, m_fixedFrom_56, m_fixedTo_56, m_fixedWord_56, m_fixedEnding_56, m_acts_21, m_isRead_25, m_isMade_25)
def m_X9_learn_48 (x1 : Int) (x2 : Int) (x3 : Int) (m_count : Nat → Int) (m_pairs : Nat → Int) (m_keptMany : Nat → Int) (m_keptWord : Nat → Int) (m_keptKind : Nat → Int) : Option (Nat × (Int × (Nat → Int) × (Nat → Int))) :=
  gd (inI x3) <|
  if x3 ≤ 0 then
    vl (x3 + 1) fun x3_89 =>
    some (0, (x3_89, m_count, m_pairs))
  else
    gd (0 ≤ (((36 * x1) + x3) - 1) ∧ (((36 * x1) + x3) - 1) < 1440) <|
    gd (0 ≤ ((36 * x1) + x3) ∧ ((36 * x1) + x3) < 1440) <|
    gd (0 ≤ ((9 * (m_keptKind (Int.toNat (((36 * x1) + x3) - 1)))) + (m_keptKind (Int.toNat ((36 * x1) + x3)))) ∧ ((9 * (m_keptKind (Int.toNat (((36 * x1) + x3) - 1)))) + (m_keptKind (Int.toNat ((36 * x1) + x3)))) < 81) <|
    gd (0 ≤ ((9 * (m_keptKind (Int.toNat (((36 * x1) + x3) - 1)))) + (m_keptKind (Int.toNat ((36 * x1) + x3)))) ∧ ((9 * (m_keptKind (Int.toNat (((36 * x1) + x3) - 1)))) + (m_keptKind (Int.toNat ((36 * x1) + x3)))) < 81) <|
    vl (uz m_pairs (Int.toNat ((9 * (m_keptKind (Int.toNat (((36 * x1) + x3) - 1)))) + (m_keptKind (Int.toNat ((36 * x1) + x3))))) ((m_pairs (Int.toNat ((9 * (m_keptKind (Int.toNat (((36 * x1) + x3) - 1)))) + (m_keptKind (Int.toNat ((36 * x1) + x3)))))) + x2)) fun m_pairs_88 =>
    vl (x3 + 1) fun x3_89_v2 =>
    some (0, (x3_89_v2, m_count, m_pairs_88))
def m_X9_learn_2 (x1 : Int) (x2 : Int) (x3 : Int) (m_count : Nat → Int) (m_pairs : Nat → Int) (m_keptMany : Nat → Int) (m_keptWord : Nat → Int) (m_keptKind : Nat → Int) : Option (Nat × (Int × (Nat → Int) × (Nat → Int))) :=
  gd (0 ≤ x1 ∧ x1 < 40) <|
  gd (inI x3) <|
  gd (inI (m_keptMany (Int.toNat x1))) <|
  if (m_keptMany (Int.toNat x1)) ≤ x3 then
    some (1, (x3, m_count, m_pairs))
  else
    gd (0 ≤ ((36 * x1) + x3) ∧ ((36 * x1) + x3) < 1440) <|
    gd (inI (m_keptWord (Int.toNat ((36 * x1) + x3)))) <|
    if (m_keptWord (Int.toNat ((36 * x1) + x3))) = 60 then
      m_X9_learn_48 x1 x2 x3 m_count m_pairs m_keptMany m_keptWord m_keptKind
    else
      gd (0 ≤ ((36 * x1) + x3) ∧ ((36 * x1) + x3) < 1440) <|
      gd (0 ≤ (m_keptWord (Int.toNat ((36 * x1) + x3))) ∧ (m_keptWord (Int.toNat ((36 * x1) + x3))) < 60) <|
      gd (0 ≤ (m_keptWord (Int.toNat ((36 * x1) + x3))) ∧ (m_keptWord (Int.toNat ((36 * x1) + x3))) < 60) <|
      vl (uz m_count (Int.toNat (m_keptWord (Int.toNat ((36 * x1) + x3)))) ((m_count (Int.toNat (m_keptWord (Int.toNat ((36 * x1) + x3))))) + x2)) fun m_count_47 =>
      m_X9_learn_48 x1 x2 x3 m_count_47 m_pairs m_keptMany m_keptWord m_keptKind
def m_X9_learn (x1 : Int) (x2 : Int) (m_count : Nat → Int) (m_pairs : Nat → Int) (m_keptMany : Nat → Int) (m_keptWord : Nat → Int) (m_keptKind : Nat → Int) : Option ((Nat → Int) × (Nat → Int)) :=
  (zloop (fun a => m_X9_learn_2 x1 x2 a.1 a.2.1 a.2.2 m_keptMany m_keptWord m_keptKind) FU (0, m_count, m_pairs)).bind fun (t_2, x3_2, m_count_2, m_pairs_2) =>
  some (m_count_2, m_pairs_2)
def m_X9_take_51 (x1 : Int) (m_code : Int) (m_spellMany : Nat → Int) (m_spellPrice : Nat → Int) (m_spell : Nat → Int) (m_sounds : Nat → Int) (m_endSounds : Nat → Int) (m_kind : Nat → Int) (m_itsClass : Nat → Int) (m_count : Nat → Int) (m_endClass : Nat → Int) (m_endPrice : Nat → Int) (m_words : Int) (m_endings : Int) (m_slip : Int) (m_guess : Int) (m_base : Int) (m_steps : Nat → Int) (m_pairs : Nat → Int) (m_n : Int) (m_fixedMany : Int) (m_line : Nat → Int) (m_breaks : Nat → Int) (m_fixedFrom : Nat → Int) (m_fixedTo : Nat → Int) (m_fixedWord : Nat → Int) (m_fixedEnding : Nat → Int) (m_acts : Int) (m_kept : Int) (m_keptMany : Nat → Int) (m_keptWord : Nat → Int) (m_keptKind : Nat → Int) (m_isRead : Int) (m_isMade : Int) (m_table : Nat → Int) (m_reach : Nat → Int) (m_next : Nat → Int) (m_rest : Nat → Int) (m_ahead : Nat → Int) (m_parts : Int) (m_total : Int) (m_partFrom : Nat → Int) (m_partTo : Nat → Int) (m_partWord : Nat → Int) (m_partEnding : Nat → Int) (m_found : Int) (m_from0 : Int) (m_kind0 : Int) : Option (Nat × (Int × (Nat → Int) × (Nat → Int))) :=
  gd (inI x1) <|
  gd (inI m_parts) <|
  if m_parts ≤ x1 then
    some (1, (x1, m_keptWord, m_keptKind))
  else
    gd (0 ≤ x1 ∧ x1 < 36) <|
    gd (0 ≤ ((36 * m_kept) + x1) ∧ ((36 * m_kept) + x1) < 1440) <|
    vl (uz m_keptWord (Int.toNat ((36 * m_kept) + x1)) (m_partWord (Int.toNat x1))) fun m_keptWord_78 =>
    gd (0 ≤ x1 ∧ x1 < 36) <|
    (m_X9_kindOf (m_partWord (Int.toNat x1)) m_kind).bind fun r_99 =>
    gd (0 ≤ ((36 * m_kept) + x1) ∧ ((36 * m_kept) + x1) < 1440) <|
    vl (uz m_keptKind (Int.toNat ((36 * m_kept) + x1)) r_99) fun m_keptKind_102 =>
    vl (x1 + 1) fun x1_103 =>
    some (0, (x1_103, m_keptWord_78, m_keptKind_102))
def m_X9_take (m_code : Int) (m_spellMany : Nat → Int) (m_spellPrice : Nat → Int) (m_spell : Nat → Int) (m_sounds : Nat → Int) (m_endSounds : Nat → Int) (m_kind : Nat → Int) (m_itsClass : Nat → Int) (m_count : Nat → Int) (m_endClass : Nat → Int) (m_endPrice : Nat → Int) (m_words : Int) (m_endings : Int) (m_slip : Int) (m_guess : Int) (m_base : Int) (m_steps : Nat → Int) (m_pairs : Nat → Int) (m_n : Int) (m_fixedMany : Int) (m_line : Nat → Int) (m_breaks : Nat → Int) (m_fixedFrom : Nat → Int) (m_fixedTo : Nat → Int) (m_fixedWord : Nat → Int) (m_fixedEnding : Nat → Int) (m_acts : Int) (m_kept : Int) (m_keptMany : Nat → Int) (m_keptWord : Nat → Int) (m_keptKind : Nat → Int) (m_isRead : Int) (m_isMade : Int) (m_table : Nat → Int) (m_reach : Nat → Int) (m_next : Nat → Int) (m_rest : Nat → Int) (m_ahead : Nat → Int) (m_parts : Int) (m_total : Int) (m_partFrom : Nat → Int) (m_partTo : Nat → Int) (m_partWord : Nat → Int) (m_partEnding : Nat → Int) (m_found : Int) (m_from0 : Int) (m_kind0 : Int) : Option (Int × Int × (Nat → Int) × (Nat → Int) × Int × Int × (Nat → Int) × Int × Int × (Nat → Int) × (Nat → Int) × (Nat → Int) × Int × Int × (Nat → Int) × (Nat → Int) × (Nat → Int) × (Nat → Int) × (Nat → Int) × Int × Int × (Nat → Int) × (Nat → Int) × (Nat → Int) × (Nat → Int) × Int × Int × Int) :=
  (m_X9_read m_spellMany m_spellPrice m_spell m_sounds m_endSounds m_kind m_itsClass m_count m_endClass m_endPrice m_words m_endings m_slip m_guess m_base m_steps m_pairs m_n m_fixedMany m_line m_breaks m_fixedFrom m_fixedTo m_fixedWord m_fixedEnding m_isRead m_isMade m_table m_reach m_next m_rest m_ahead m_parts m_total m_partFrom m_partTo m_partWord m_partEnding m_found m_from0 m_kind0).bind fun (m_isRead_6, m_isMade_6, m_table_6, m_reach_6, m_next_6, m_rest_6, m_ahead_6, m_parts_6, m_total_6, m_partFrom_6, m_partTo_6, m_partWord_6, m_partEnding_6, m_found_6, m_from0_6, m_kind0_6) =>
  gd (inI m_n) <|
  if m_n = 0 then
    some ((-1), 0, m_count, m_pairs, m_n, m_fixedMany, m_breaks, m_acts, m_kept, m_keptMany, m_keptWord, m_keptKind, m_isRead_6, m_isMade_6, m_table_6, m_reach_6, m_next_6, m_rest_6, m_ahead_6, m_parts_6, m_total_6, m_partFrom_6, m_partTo_6, m_partWord_6, m_partEnding_6, m_found_6, m_from0_6, m_kind0_6)
  else
    gd (inI m_total_6) <|
    if 134217728 ≤ m_total_6 then
      some ((-1), 0, m_count, m_pairs, m_n, m_fixedMany, m_breaks, m_acts, m_kept, m_keptMany, m_keptWord, m_keptKind, m_isRead_6, m_isMade_6, m_table_6, m_reach_6, m_next_6, m_rest_6, m_ahead_6, m_parts_6, m_total_6, m_partFrom_6, m_partTo_6, m_partWord_6, m_partEnding_6, m_found_6, m_from0_6, m_kind0_6)
    else
      gd (inI m_kept) <|
      if m_kept = 40 then
        some ((-1), 0, m_count, m_pairs, m_n, m_fixedMany, m_breaks, m_acts, m_kept, m_keptMany, m_keptWord, m_keptKind, m_isRead_6, m_isMade_6, m_table_6, m_reach_6, m_next_6, m_rest_6, m_ahead_6, m_parts_6, m_total_6, m_partFrom_6, m_partTo_6, m_partWord_6, m_partEnding_6, m_found_6, m_from0_6, m_kind0_6)
      else
        gd (0 ≤ m_kept ∧ m_kept < 40) <|
        vl (uz m_keptMany (Int.toNat m_kept) m_parts_6) fun m_keptMany_48 =>
        (zloop (fun a => m_X9_take_51 a.1 0 m_spellMany m_spellPrice m_spell m_sounds m_endSounds m_kind m_itsClass m_count m_endClass m_endPrice m_words m_endings m_slip m_guess m_base m_steps m_pairs m_n m_fixedMany m_line m_breaks m_fixedFrom m_fixedTo m_fixedWord m_fixedEnding m_acts m_kept m_keptMany_48 a.2.1 a.2.2 m_isRead_6 m_isMade_6 m_table_6 m_reach_6 m_next_6 m_rest_6 m_ahead_6 m_parts_6 m_total_6 m_partFrom_6 m_partTo_6 m_partWord_6 m_partEnding_6 m_found_6 m_from0_6 m_kind0_6) FU (0, m_keptWord, m_keptKind)).bind fun (t_51, x1_51, m_keptWord_51, m_keptKind_51) =>
        (m_X9_learn m_kept 1 m_count m_pairs m_keptMany_48 m_keptWord_51 m_keptKind_51).bind fun (m_count_115, m_pairs_115) =>
        vl (m_kept + 1) fun m_kept_125 =>
        (m_X9_freeHand m_fixedMany m_breaks).bind fun (m_fixedMany_139, m_breaks_139) =>
        (m_X9_changed m_isRead_6 m_isMade_6).bind fun (m_isRead_148, m_isMade_148) =>
        some (m_parts_6, 0, m_count_115, m_pairs_115, 0, m_fixedMany_139, m_breaks_139, 0, m_kept_125, m_keptMany_48, m_keptWord_51, m_keptKind_51, m_isRead_148, m_isMade_148, m_table_6, m_reach_6, m_next_6, m_rest_6, m_ahead_6, m_parts_6, m_total_6, m_partFrom_6, m_partTo_6, m_partWord_6, m_partEnding_6, m_found_6, m_from0_6, m_kind0_6)
def m_X9_unlearn (m_code : Int) (m_count : Nat → Int) (m_pairs : Nat → Int) (m_kept : Int) (m_keptMany : Nat → Int) (m_keptWord : Nat → Int) (m_keptKind : Nat → Int) (m_isRead : Int) : Option (Int × Int × (Nat → Int) × (Nat → Int) × Int × Int) :=
  gd (inI m_kept) <|
  if m_kept = 0 then
    some ((-1), 0, m_count, m_pairs, m_kept, m_isRead)
  else
    vl (m_kept - 1) fun m_kept_21 =>
    (m_X9_learn m_kept_21 (-1) m_count m_pairs m_keptMany m_keptWord m_keptKind).bind fun (m_count_30, m_pairs_30) =>
    some (m_kept_21, 0, m_count_30, m_pairs_30, m_kept_21, 0)
def m_X9_count_17 (m_code : Int) (m_count : Nat → Int) (m_words : Int) : Option (Int × Int) :=
  (m_X9_fail m_code).bind fun (r_18, m_code_18) =>
  some (r_18, m_code_18)
def m_X9_count (x1 : Int) (m_code : Int) (m_count : Nat → Int) (m_words : Int) : Option (Int × Int) :=
  gd (inI x1) <|
  if x1 < 0 then
    m_X9_count_17 0 m_count m_words
  else
    gd (inI m_words) <|
    if x1 < m_words then
      gd (0 ≤ x1 ∧ x1 < 60) <|
      some ((m_count (Int.toNat x1)), 0)
    else
      m_X9_count_17 0 m_count m_words
def m_X9_pairs_25 (m_code : Int) (m_pairs : Nat → Int) : Option (Int × Int) :=
  (m_X9_fail m_code).bind fun (r_26, m_code_26) =>
  some (r_26, m_code_26)
def m_X9_pairs (x1 : Int) (x2 : Int) (m_code : Int) (m_pairs : Nat → Int) : Option (Int × Int) :=
  gd (inI x1) <|
  if x1 < 0 then
    m_X9_pairs_25 0 m_pairs
  else
    if 9 ≤ x1 then
      m_X9_pairs_25 0 m_pairs
    else
      gd (inI x2) <|
      if x2 < 0 then
        m_X9_pairs_25 0 m_pairs
      else
        if x2 < 9 then
          gd (0 ≤ ((9 * x1) + x2) ∧ ((9 * x1) + x2) < 81) <|
          some ((m_pairs (Int.toNat ((9 * x1) + x2))), 0)
        else
          m_X9_pairs_25 0 m_pairs
def m_X9_about (x1 : Int) (m_code : Int) (m_words : Int) (m_endings : Int) (m_fixedMany : Int) (m_acts : Int) (m_kept : Int) : Option (Int × Int) :=
  gd (inI x1) <|
  if x1 = 0 then
    some (m_words, 0)
  else
  if x1 = 1 then
    some (m_endings, 0)
  else
  if x1 = 2 then
    some (m_acts, 0)
  else
  if x1 = 3 then
    some (m_kept, 0)
  else
  if x1 = 4 then
    some (m_fixedMany, 0)
  else
  (m_X9_fail 0).bind fun (r_66, m_code_66) =>
  some (r_66, m_code_66)
abbrev zSv : Type := Int × (Nat → Int) × (Nat → Int) × (Nat → Int)
def zCopy (a b : zSv) : zSv := (b.1, zcp b.2.1 a.2.1 0 0 36, zcp b.2.2.1 a.2.2.1 0 0 36, zcp b.2.2.2 a.2.2.2 0 0 36)
abbrev zS0 : zSv := (0, fun _ => 0, fun _ => 0, fun _ => 0)
def zKeep (Rv : List zSv) (k : Nat) (v : zSv) : List zSv := if k < Rv.length then Rv.set k (zCopy (Rv.getD k zS0) v) else Rv ++ [zCopy zS0 v]
def m_X0_keep (a_ring : List zSv) (a_next a_kept : Int) (s_length : Int) (s_letters s_breaks s_fixed : Nat → Int) : Option (List zSv × Int × Int) :=
  gd (0 ≤ a_next ∧ a_next < 80) <|
  gd (a_next ≤ (a_ring.length : Int)) <|
  gd (0 ≤ a_kept ∧ a_kept ≤ 80) <|
  some (zKeep a_ring a_next.toNat (s_length, s_letters, s_breaks, s_fixed), Int.tmod (a_next + 1) 80, min (a_kept + 1) 80)
def m_X0_undo (a_ring : List zSv) (a_next a_kept : Int) (s_length : Int) (s_letters s_breaks s_fixed : Nat → Int) : Option (Int × Int × Int × Int × (Nat → Int) × (Nat → Int) × (Nat → Int)) :=
  if a_kept = 0 then
    some (0, a_next, a_kept, s_length, s_letters, s_breaks, s_fixed)
  else
    gd (0 ≤ a_next ∧ a_next < 80) <|
    gd (0 < a_kept ∧ a_kept ≤ 80) <|
    (a_ring[(Int.tmod (a_next + 80 - 1) 80).toNat]?).bind fun g =>
    some (1, Int.tmod (a_next + 80 - 1) 80, a_kept - 1, g.1, zcp g.2.1 s_letters 0 0 36, zcp g.2.2.1 s_breaks 0 0 36, zcp g.2.2.2 s_fixed 0 0 36)
def m_X8_beginAct (a_ring : List zSv) (a_next : Int) (a_kept : Int) (o_leadsKnown : Int) (o_listedPart : Int) (r_known : Int) (s_length : Int) (s_letters : Nat → Int) (s_breaks : Nat → Int) (s_fixed : Nat → Int) : Option (List zSv × Int × Int × Int × Int × Int) :=
  (m_X0_keep a_ring a_next a_kept s_length s_letters s_breaks s_fixed).bind fun (a_ring_8, a_next_8, a_kept_8) =>
  (m_X8_lineChanged o_leadsKnown o_listedPart r_known).bind fun (o_leadsKnown_12, o_listedPart_12, r_known_12) =>
  some (a_ring_8, a_next_8, a_kept_8, o_leadsKnown_12, o_listedPart_12, r_known_12)
def m_X8_spelling (x1 : Int) (x2 : Int) (x4 : Int) (b_spellingsOf : Nat → Int) (b_spellingRows : Nat → Int) (b_spellingLengths : Nat → Int) (b_spellingPrices : Nat → Int) (o_leadsKnown : Int) (o_listedPart : Int) (r_known : Int) (v_columns : Int) : Option (Int × Int × (Nat → Int) × (Nat → Int) × (Nat → Int) × (Nat → Int) × Int × Int × Int × Int) :=
  (m_X8_rowLength x2 5 26 4).bind fun r_5 =>
  gd (inI x1) <|
  if x1 < 0 then
    some (1, 0, b_spellingsOf, b_spellingRows, b_spellingLengths, b_spellingPrices, o_leadsKnown, o_listedPart, r_known, v_columns)
  else
    if 50 ≤ x1 then
      some (1, 0, b_spellingsOf, b_spellingRows, b_spellingLengths, b_spellingPrices, o_leadsKnown, o_listedPart, r_known, v_columns)
    else
      gd (inI r_5) <|
      if r_5 = 0 then
        some (1, 0, b_spellingsOf, b_spellingRows, b_spellingLengths, b_spellingPrices, o_leadsKnown, o_listedPart, r_known, v_columns)
      else
        gd (inI x4) <|
        if x4 < 0 then
          some (1, 0, b_spellingsOf, b_spellingRows, b_spellingLengths, b_spellingPrices, o_leadsKnown, o_listedPart, r_known, v_columns)
        else
          if x4 ≤ 40 then
            (m_X1_addSpelling x1 x2 r_5 x4 b_spellingsOf b_spellingRows b_spellingLengths b_spellingPrices).bind fun (r_58, b_spellingsOf_58, b_spellingRows_58, b_spellingLengths_58, b_spellingPrices_58) =>
            gd (inI r_58) <|
            if r_58 = 0 then
              some (0, (-1), b_spellingsOf_58, b_spellingRows_58, b_spellingLengths_58, b_spellingPrices_58, o_leadsKnown, o_listedPart, r_known, v_columns)
            else
              (m_X8_bookChanged o_leadsKnown o_listedPart r_known v_columns).bind fun (o_leadsKnown_67, o_listedPart_67, r_known_67, v_columns_67) =>
              gd (0 ≤ x1 ∧ x1 < 50) <|
              some (0, (b_spellingsOf_58 (Int.toNat x1)), b_spellingsOf_58, b_spellingRows_58, b_spellingLengths_58, b_spellingPrices_58, o_leadsKnown_67, o_listedPart_67, r_known_67, v_columns_67)
          else
            some (1, 0, b_spellingsOf, b_spellingRows, b_spellingLengths, b_spellingPrices, o_leadsKnown, o_listedPart, r_known, v_columns)
def m_X8_word (x1 : Int) (x3 : Int) (x5 : Int) (x6 : Int) (b_words : Int) (b_wordSounds : Nat → Int) (b_wordSigns : Nat → Int) (b_wordKinds : Nat → Int) (b_wordClasses : Nat → Int) (o_leadsKnown : Int) (o_listedPart : Int) (r_known : Int) (v_columns : Int) : Option (Int × Int × Int × (Nat → Int) × (Nat → Int) × (Nat → Int) × (Nat → Int) × Int × Int × Int × Int) :=
  (m_X8_rowLength x1 6 50 6).bind fun r_7 =>
  gd (inI r_7) <|
  if r_7 = 0 then
    some (1, 0, b_words, b_wordSounds, b_wordSigns, b_wordKinds, b_wordClasses, o_leadsKnown, o_listedPart, r_known, v_columns)
  else
    (m_X8_rowLength x3 14 16383 4).bind fun r_20 =>
    gd (inI r_20) <|
    if r_20 = 0 then
      some (1, 0, b_words, b_wordSounds, b_wordSigns, b_wordKinds, b_wordClasses, o_leadsKnown, o_listedPart, r_known, v_columns)
    else
      gd (inI x5) <|
      if x5 < 0 then
        some (1, 0, b_words, b_wordSounds, b_wordSigns, b_wordKinds, b_wordClasses, o_leadsKnown, o_listedPart, r_known, v_columns)
      else
        if 8 ≤ x5 then
          some (1, 0, b_words, b_wordSounds, b_wordSigns, b_wordKinds, b_wordClasses, o_leadsKnown, o_listedPart, r_known, v_columns)
        else
          gd (inI x6) <|
          if x6 < (-1) then
            some (1, 0, b_words, b_wordSounds, b_wordSigns, b_wordKinds, b_wordClasses, o_leadsKnown, o_listedPart, r_known, v_columns)
          else
            if x6 < 6 then
              gd (inI b_words) <|
              if b_words < 60 then
                (m_X8_bookChanged o_leadsKnown o_listedPart r_known v_columns).bind fun (o_leadsKnown_86, o_listedPart_86, r_known_86, v_columns_86) =>
                (m_X1_addWord x1 x3 x5 x6 b_words b_wordSounds b_wordSigns b_wordKinds b_wordClasses).bind fun (r_99, b_words_99, b_wordSounds_99, b_wordSigns_99, b_wordKinds_99, b_wordClasses_99) =>
                some (0, r_99, b_words_99, b_wordSounds_99, b_wordSigns_99, b_wordKinds_99, b_wordClasses_99, o_leadsKnown_86, o_listedPart_86, r_known_86, v_columns_86)
              else
                some (0, (-1), b_words, b_wordSounds, b_wordSigns, b_wordKinds, b_wordClasses, o_leadsKnown, o_listedPart, r_known, v_columns)
            else
              some (1, 0, b_words, b_wordSounds, b_wordSigns, b_wordKinds, b_wordClasses, o_leadsKnown, o_listedPart, r_known, v_columns)
def m_X8_ending (x1 : Int) (x3 : Int) (x4 : Int) (x5 : Int) (b_endings : Int) (b_endingSounds : Nat → Int) (b_endingSigns : Nat → Int) (b_endingClasses : Nat → Int) (b_endingPrices : Nat → Int) (o_leadsKnown : Int) (o_listedPart : Int) (r_known : Int) (v_columns : Int) : Option (Int × Int × Int × (Nat → Int) × (Nat → Int) × (Nat → Int) × (Nat → Int) × Int × Int × Int × Int) :=
  (m_X8_rowLength x1 6 50 3).bind fun r_6 =>
  gd (inI r_6) <|
  if r_6 = 0 then
    some (1, 0, b_endings, b_endingSounds, b_endingSigns, b_endingClasses, b_endingPrices, o_leadsKnown, o_listedPart, r_known, v_columns)
  else
    gd (inI x3) <|
    if x3 < 1 then
      some (1, 0, b_endings, b_endingSounds, b_endingSigns, b_endingClasses, b_endingPrices, o_leadsKnown, o_listedPart, r_known, v_columns)
    else
      if x3 ≤ 16383 then
        gd (inI x4) <|
        if x4 < 0 then
          some (1, 0, b_endings, b_endingSounds, b_endingSigns, b_endingClasses, b_endingPrices, o_leadsKnown, o_listedPart, r_known, v_columns)
        else
          if 6 ≤ x4 then
            some (1, 0, b_endings, b_endingSounds, b_endingSigns, b_endingClasses, b_endingPrices, o_leadsKnown, o_listedPart, r_known, v_columns)
          else
            gd (inI x5) <|
            if x5 < 0 then
              some (1, 0, b_endings, b_endingSounds, b_endingSigns, b_endingClasses, b_endingPrices, o_leadsKnown, o_listedPart, r_known, v_columns)
            else
              if x5 ≤ 60 then
                gd (inI b_endings) <|
                if b_endings < 8 then
                  (m_X8_bookChanged o_leadsKnown o_listedPart r_known v_columns).bind fun (o_leadsKnown_83, o_listedPart_83, r_known_83, v_columns_83) =>
                  (m_X1_addEnding x1 x3 x4 x5 b_endings b_endingSounds b_endingSigns b_endingClasses b_endingPrices).bind fun (r_96, b_endings_96, b_endingSounds_96, b_endingSigns_96, b_endingClasses_96, b_endingPrices_96) =>
                  some (0, r_96, b_endings_96, b_endingSounds_96, b_endingSigns_96, b_endingClasses_96, b_endingPrices_96, o_leadsKnown_83, o_listedPart_83, r_known_83, v_columns_83)
                else
                  some (0, (-1), b_endings, b_endingSounds, b_endingSigns, b_endingClasses, b_endingPrices, o_leadsKnown, o_listedPart, r_known, v_columns)
              else
                some (1, 0, b_endings, b_endingSounds, b_endingSigns, b_endingClasses, b_endingPrices, o_leadsKnown, o_listedPart, r_known, v_columns)
      else
        some (1, 0, b_endings, b_endingSounds, b_endingSigns, b_endingClasses, b_endingPrices, o_leadsKnown, o_listedPart, r_known, v_columns)
def m_X8_price (x1 : Int) (x2 : Int) (b_prices : Nat → Int) (o_leadsKnown : Int) (o_listedPart : Int) (r_known : Int) (v_columns : Int) : Option (Int × Int × (Nat → Int) × Int × Int × Int × Int) :=
  gd (inI x1) <|
  if x1 < 0 then
    some (1, 0, b_prices, o_leadsKnown, o_listedPart, r_known, v_columns)
  else
    if 3 ≤ x1 then
      some (1, 0, b_prices, o_leadsKnown, o_listedPart, r_known, v_columns)
    else
      gd (inI x2) <|
      if x2 < 0 then
        some (1, 0, b_prices, o_leadsKnown, o_listedPart, r_known, v_columns)
      else
        if x2 ≤ 200 then
          gd (0 ≤ x1 ∧ x1 < 3) <|
          vl (b_prices (Int.toNat x1)) fun x3_39 =>
          gd (0 ≤ x1 ∧ x1 < 3) <|
          vl (uz b_prices (Int.toNat x1) x2) fun b_prices_49 =>
          (m_X8_bookChanged o_leadsKnown o_listedPart r_known v_columns).bind fun (o_leadsKnown_51, o_listedPart_51, r_known_51, v_columns_51) =>
          some (0, x3_39, b_prices_49, o_leadsKnown_51, o_listedPart_51, r_known_51, v_columns_51)
        else
          some (1, 0, b_prices, o_leadsKnown, o_listedPart, r_known, v_columns)
def m_X8_step (x1 : Int) (x2 : Int) (x3 : Int) (b_stepPrices : Nat → Int) (b_pairsOf : Nat → Int) (b_stepCosts : Nat → Int) (o_leadsKnown : Int) (o_listedPart : Int) (r_known : Int) : Option (Int × Int × (Nat → Int) × (Nat → Int) × Int × Int × Int) :=
  (m_X8_areKinds x1 x2).bind fun r_2 =>
  gd (inI r_2) <|
  if r_2 = 0 then
    some (1, 0, b_stepPrices, b_stepCosts, o_leadsKnown, o_listedPart, r_known)
  else
    gd (inI x3) <|
    if x3 < 0 then
      some (1, 0, b_stepPrices, b_stepCosts, o_leadsKnown, o_listedPart, r_known)
    else
      if x3 ≤ 90 then
        gd (0 ≤ ((x1 * 9) + x2) ∧ ((x1 * 9) + x2) < 81) <|
        vl (b_stepPrices (Int.toNat ((x1 * 9) + x2))) fun x4_42 =>
        (m_X1_priceStep ((x1 * 9) + x2) x3 b_stepPrices b_pairsOf b_stepCosts).bind fun (b_stepPrices_55, b_stepCosts_55) =>
        (m_X8_lineChanged o_leadsKnown o_listedPart r_known).bind fun (o_leadsKnown_59, o_listedPart_59, r_known_59) =>
        some (0, x4_42, b_stepPrices_55, b_stepCosts_55, o_leadsKnown_59, o_listedPart_59, r_known_59)
      else
        some (1, 0, b_stepPrices, b_stepCosts, o_leadsKnown, o_listedPart, r_known)
def m_X8_type (x1 : Int) (a_ring : List zSv) (a_next : Int) (a_kept : Int) (o_leadsKnown : Int) (o_listedPart : Int) (r_known : Int) (s_length : Int) (s_letters : Nat → Int) (s_breaks : Nat → Int) (s_fixed : Nat → Int) : Option (Int × Int × List zSv × Int × Int × Int × Int × Int × Int × (Nat → Int) × (Nat → Int)) :=
  gd (inI x1) <|
  if x1 < 1 then
    some (1, 0, a_ring, a_next, a_kept, o_leadsKnown, o_listedPart, r_known, s_length, s_letters, s_breaks)
  else
    if x1 ≤ 26 then
      gd (inI s_length) <|
      if s_length < 36 then
        (m_X8_beginAct a_ring a_next a_kept o_leadsKnown o_listedPart r_known s_length s_letters s_breaks s_fixed).bind fun (a_ring_36, a_next_36, a_kept_36, o_leadsKnown_36, o_listedPart_36, r_known_36) =>
        (m_X4_append x1 s_length s_letters s_breaks s_fixed).bind fun (s_length_44, s_letters_44, s_breaks_44) =>
        some (0, s_length_44, a_ring_36, a_next_36, a_kept_36, o_leadsKnown_36, o_listedPart_36, r_known_36, s_length_44, s_letters_44, s_breaks_44)
      else
        some (0, (-1), a_ring, a_next, a_kept, o_leadsKnown, o_listedPart, r_known, s_length, s_letters, s_breaks)
    else
      some (1, 0, a_ring, a_next, a_kept, o_leadsKnown, o_listedPart, r_known, s_length, s_letters, s_breaks)
def m_X8_typed (x1 : Int) (s_length : Int) (s_letters : Nat → Int) : Option (Int × Int) :=
  gd (inI x1) <|
  if x1 = (-1) then
    some (0, s_length)
  else
    if x1 < 0 then
      some (1, 0)
    else
      gd (inI s_length) <|
      if x1 < s_length then
        gd (0 ≤ x1 ∧ x1 < 36) <|
        some (0, (s_letters (Int.toNat x1)))
      else
        some (1, 0)
end
section
def m_X8_part (x1 : Int) (x2 : Int) (b_spellingsOf : Nat → Int) (b_spellingRows : Nat → Int) (b_spellingLengths : Nat → Int) (b_spellingPrices : Nat → Int) (b_words : Int) (b_wordSounds : Nat → Int) (b_wordKinds : Nat → Int) (b_wordClasses : Nat → Int) (b_counts : Nat → Int) (b_endings : Int) (b_endingSounds : Nat → Int) (b_endingClasses : Nat → Int) (b_endingPrices : Nat → Int) (b_prices : Nat → Int) (b_stepCosts : Nat → Int) (r_fixedValues : Nat → Int) (r_heads : Nat → Int) (r_rests : Nat → Int) (r_known : Int) (r_total : Int) (r_length : Int) (r_begins : Nat → Int) (r_ends : Nat → Int) (r_entries : Nat → Int) (r_costs : Nat → Int) (s_length : Int) (s_letters : Nat → Int) (s_breaks : Nat → Int) (s_fixed : Nat → Int) (v_values : Nat → Int) (v_lettersRead : Nat → Int) (v_columns : Int) (p_now : Nat → Int) (p_nowA : Nat) (p_next : Nat → Int) (p_nextA : Nat) (p_low : Int) (p_high : Int) (p_seeds : Nat → Int) (p_seedLows : Nat → Int) : Option (Int × Int × (Nat → Int) × (Nat → Int) × (Nat → Int) × Int × Int × Int × (Nat → Int) × (Nat → Int) × (Nat → Int) × (Nat → Int) × (Nat → Int) × (Nat → Int) × Int × (Nat → Int) × Nat × (Nat → Int) × Nat × Int × Int × (Nat → Int) × (Nat → Int)) :=
  (m_X3_renew b_spellingsOf b_spellingRows b_spellingLengths b_spellingPrices b_words b_wordSounds b_wordKinds b_wordClasses b_counts b_endings b_endingSounds b_endingClasses b_endingPrices b_prices b_stepCosts r_fixedValues r_heads r_rests r_known r_total r_length r_begins r_ends r_entries r_costs s_length s_letters s_breaks s_fixed v_values v_lettersRead v_columns p_now p_nowA p_next p_nextA p_low p_high p_seeds p_seedLows).bind fun (r_fixedValues_4, r_heads_4, r_rests_4, r_known_4, r_total_4, r_length_4, r_begins_4, r_ends_4, r_entries_4, r_costs_4, v_values_4, v_lettersRead_4, v_columns_4, p_now_4, p_nowA_4, p_next_4, p_nextA_4, p_low_4, p_high_4, p_seeds_4, p_seedLows_4) =>
  gd (inI x1) <|
  if x1 < 0 then
    some (1, 0, r_fixedValues_4, r_heads_4, r_rests_4, r_known_4, r_total_4, r_length_4, r_begins_4, r_ends_4, r_entries_4, r_costs_4, v_values_4, v_lettersRead_4, v_columns_4, p_now_4, p_nowA_4, p_next_4, p_nextA_4, p_low_4, p_high_4, p_seeds_4, p_seedLows_4)
  else
    gd (inI r_length_4) <|
    if x1 < r_length_4 then
      gd (inI x2) <|
      if x2 = 0 then
        gd (0 ≤ x1 ∧ x1 < 36) <|
        some (0, (r_begins_4 (Int.toNat x1)), r_fixedValues_4, r_heads_4, r_rests_4, r_known_4, r_total_4, r_length_4, r_begins_4, r_ends_4, r_entries_4, r_costs_4, v_values_4, v_lettersRead_4, v_columns_4, p_now_4, p_nowA_4, p_next_4, p_nextA_4, p_low_4, p_high_4, p_seeds_4, p_seedLows_4)
      else
      if x2 = 1 then
        gd (0 ≤ x1 ∧ x1 < 36) <|
        some (0, (r_ends_4 (Int.toNat x1)), r_fixedValues_4, r_heads_4, r_rests_4, r_known_4, r_total_4, r_length_4, r_begins_4, r_ends_4, r_entries_4, r_costs_4, v_values_4, v_lettersRead_4, v_columns_4, p_now_4, p_nowA_4, p_next_4, p_nextA_4, p_low_4, p_high_4, p_seeds_4, p_seedLows_4)
      else
      if x2 = 2 then
        gd (0 ≤ x1 ∧ x1 < 36) <|
        (m_X8_wordOf (r_entries_4 (Int.toNat x1))).bind fun r_105 =>
        some (0, r_105, r_fixedValues_4, r_heads_4, r_rests_4, r_known_4, r_total_4, r_length_4, r_begins_4, r_ends_4, r_entries_4, r_costs_4, v_values_4, v_lettersRead_4, v_columns_4, p_now_4, p_nowA_4, p_next_4, p_nextA_4, p_low_4, p_high_4, p_seeds_4, p_seedLows_4)
      else
      if x2 = 3 then
        gd (0 ≤ x1 ∧ x1 < 36) <|
        (m_X8_endingOf (r_entries_4 (Int.toNat x1))).bind fun r_118 =>
        some (0, r_118, r_fixedValues_4, r_heads_4, r_rests_4, r_known_4, r_total_4, r_length_4, r_begins_4, r_ends_4, r_entries_4, r_costs_4, v_values_4, v_lettersRead_4, v_columns_4, p_now_4, p_nowA_4, p_next_4, p_nextA_4, p_low_4, p_high_4, p_seeds_4, p_seedLows_4)
      else
      if x2 = 4 then
        gd (0 ≤ x1 ∧ x1 < 36) <|
        (m_X1_kindOf (r_entries_4 (Int.toNat x1)) b_wordKinds).bind fun r_135 =>
        some (0, r_135, r_fixedValues_4, r_heads_4, r_rests_4, r_known_4, r_total_4, r_length_4, r_begins_4, r_ends_4, r_entries_4, r_costs_4, v_values_4, v_lettersRead_4, v_columns_4, p_now_4, p_nowA_4, p_next_4, p_nextA_4, p_low_4, p_high_4, p_seeds_4, p_seedLows_4)
      else
      if x2 = 5 then
        gd (0 ≤ x1 ∧ x1 < 36) <|
        some (0, (r_costs_4 (Int.toNat x1)), r_fixedValues_4, r_heads_4, r_rests_4, r_known_4, r_total_4, r_length_4, r_begins_4, r_ends_4, r_entries_4, r_costs_4, v_values_4, v_lettersRead_4, v_columns_4, p_now_4, p_nowA_4, p_next_4, p_nextA_4, p_low_4, p_high_4, p_seeds_4, p_seedLows_4)
      else
      if x2 = 6 then
        gd (0 ≤ x1 ∧ x1 < 36) <|
        gd (0 ≤ (r_begins_4 (Int.toNat x1)) ∧ (r_begins_4 (Int.toNat x1)) < 36) <|
        gd (inI (s_fixed (Int.toNat (r_begins_4 (Int.toNat x1))))) <|
        if (s_fixed (Int.toNat (r_begins_4 (Int.toNat x1)))) = 0 then
          some (0, 0, r_fixedValues_4, r_heads_4, r_rests_4, r_known_4, r_total_4, r_length_4, r_begins_4, r_ends_4, r_entries_4, r_costs_4, v_values_4, v_lettersRead_4, v_columns_4, p_now_4, p_nowA_4, p_next_4, p_nextA_4, p_low_4, p_high_4, p_seeds_4, p_seedLows_4)
        else
          some (0, 1, r_fixedValues_4, r_heads_4, r_rests_4, r_known_4, r_total_4, r_length_4, r_begins_4, r_ends_4, r_entries_4, r_costs_4, v_values_4, v_lettersRead_4, v_columns_4, p_now_4, p_nowA_4, p_next_4, p_nextA_4, p_low_4, p_high_4, p_seeds_4, p_seedLows_4)
      else
      some (1, 0, r_fixedValues_4, r_heads_4, r_rests_4, r_known_4, r_total_4, r_length_4, r_begins_4, r_ends_4, r_entries_4, r_costs_4, v_values_4, v_lettersRead_4, v_columns_4, p_now_4, p_nowA_4, p_next_4, p_nextA_4, p_low_4, p_high_4, p_seeds_4, p_seedLows_4)
    else
      some (1, 0, r_fixedValues_4, r_heads_4, r_rests_4, r_known_4, r_total_4, r_length_4, r_begins_4, r_ends_4, r_entries_4, r_costs_4, v_values_4, v_lettersRead_4, v_columns_4, p_now_4, p_nowA_4, p_next_4, p_nextA_4, p_low_4, p_high_4, p_seeds_4, p_seedLows_4)
def m_X8_sign_90 (x1 : Int) (x2 : Int) (x3 : Int) (x4 : Int) (b_spellingsOf : Nat → Int) (b_spellingRows : Nat → Int) (b_spellingLengths : Nat → Int) (b_spellingPrices : Nat → Int) (b_words : Int) (b_wordSounds : Nat → Int) (b_wordSigns : Nat → Int) (b_wordKinds : Nat → Int) (b_wordClasses : Nat → Int) (b_counts : Nat → Int) (b_endings : Int) (b_endingSounds : Nat → Int) (b_endingSigns : Nat → Int) (b_endingClasses : Nat → Int) (b_endingPrices : Nat → Int) (b_prices : Nat → Int) (b_stepCosts : Nat → Int) (r_fixedValues : Nat → Int) (r_heads : Nat → Int) (r_rests : Nat → Int) (r_known : Int) (r_total : Int) (r_length : Int) (r_begins : Nat → Int) (r_ends : Nat → Int) (r_entries : Nat → Int) (r_costs : Nat → Int) (s_length : Int) (s_letters : Nat → Int) (s_breaks : Nat → Int) (s_fixed : Nat → Int) (v_values : Nat → Int) (v_lettersRead : Nat → Int) (v_columns : Int) (p_now : Nat → Int) (p_nowA : Nat) (p_next : Nat → Int) (p_nextA : Nat) (p_low : Int) (p_high : Int) (p_seeds : Nat → Int) (p_seedLows : Nat → Int) : Option (Nat × (Int × Int)) :=
  vl (x2 + x4) fun x2_94 =>
  vl (x3 + 1) fun x3_95 =>
  some (0, (x2_94, x3_95))
def m_X8_sign_11 (x1 : Int) (x2 : Int) (x3 : Int) (b_spellingsOf : Nat → Int) (b_spellingRows : Nat → Int) (b_spellingLengths : Nat → Int) (b_spellingPrices : Nat → Int) (b_words : Int) (b_wordSounds : Nat → Int) (b_wordSigns : Nat → Int) (b_wordKinds : Nat → Int) (b_wordClasses : Nat → Int) (b_counts : Nat → Int) (b_endings : Int) (b_endingSounds : Nat → Int) (b_endingSigns : Nat → Int) (b_endingClasses : Nat → Int) (b_endingPrices : Nat → Int) (b_prices : Nat → Int) (b_stepCosts : Nat → Int) (r_fixedValues : Nat → Int) (r_heads : Nat → Int) (r_rests : Nat → Int) (r_known : Int) (r_total : Int) (r_length : Int) (r_begins : Nat → Int) (r_ends : Nat → Int) (r_entries : Nat → Int) (r_costs : Nat → Int) (s_length : Int) (s_letters : Nat → Int) (s_breaks : Nat → Int) (s_fixed : Nat → Int) (v_values : Nat → Int) (v_lettersRead : Nat → Int) (v_columns : Int) (p_now : Nat → Int) (p_nowA : Nat) (p_next : Nat → Int) (p_nextA : Nat) (p_low : Int) (p_high : Int) (p_seeds : Nat → Int) (p_seedLows : Nat → Int) : Option (Nat × (Int × Int)) :=
  gd (inI x3) <|
  gd (inI r_length) <|
  if r_length ≤ x3 then
    some (1, (x2, x3))
  else
    gd (0 ≤ x3 ∧ x3 < 36) <|
    (m_X1_signsOf (r_entries (Int.toNat x3)) b_wordSigns).bind fun r_35 =>
    gd (inI x1) <|
    gd (inI x2) <|
    if x1 < x2 then
      m_X8_sign_90 x1 x2 x3 r_35 b_spellingsOf b_spellingRows b_spellingLengths b_spellingPrices b_words b_wordSounds b_wordSigns b_wordKinds b_wordClasses b_counts b_endings b_endingSounds b_endingSigns b_endingClasses b_endingPrices b_prices b_stepCosts r_fixedValues r_heads r_rests r_known r_total r_length r_begins r_ends r_entries r_costs s_length s_letters s_breaks s_fixed v_values v_lettersRead v_columns p_now p_nowA p_next p_nextA p_low p_high p_seeds p_seedLows
    else
      gd (inI (x2 + r_35)) <|
      if (x2 + r_35) ≤ x1 then
        m_X8_sign_90 x1 x2 x3 r_35 b_spellingsOf b_spellingRows b_spellingLengths b_spellingPrices b_words b_wordSounds b_wordSigns b_wordKinds b_wordClasses b_counts b_endings b_endingSounds b_endingSigns b_endingClasses b_endingPrices b_prices b_stepCosts r_fixedValues r_heads r_rests r_known r_total r_length r_begins r_ends r_entries r_costs s_length s_letters s_breaks s_fixed v_values v_lettersRead v_columns p_now p_nowA p_next p_nextA p_low p_high p_seeds p_seedLows
      else
        some (2, (x2, x3))
def m_X8_sign (x1 : Int) (b_spellingsOf : Nat → Int) (b_spellingRows : Nat → Int) (b_spellingLengths : Nat → Int) (b_spellingPrices : Nat → Int) (b_words : Int) (b_wordSounds : Nat → Int) (b_wordSigns : Nat → Int) (b_wordKinds : Nat → Int) (b_wordClasses : Nat → Int) (b_counts : Nat → Int) (b_endings : Int) (b_endingSounds : Nat → Int) (b_endingSigns : Nat → Int) (b_endingClasses : Nat → Int) (b_endingPrices : Nat → Int) (b_prices : Nat → Int) (b_stepCosts : Nat → Int) (r_fixedValues : Nat → Int) (r_heads : Nat → Int) (r_rests : Nat → Int) (r_known : Int) (r_total : Int) (r_length : Int) (r_begins : Nat → Int) (r_ends : Nat → Int) (r_entries : Nat → Int) (r_costs : Nat → Int) (s_length : Int) (s_letters : Nat → Int) (s_breaks : Nat → Int) (s_fixed : Nat → Int) (v_values : Nat → Int) (v_lettersRead : Nat → Int) (v_columns : Int) (p_now : Nat → Int) (p_nowA : Nat) (p_next : Nat → Int) (p_nextA : Nat) (p_low : Int) (p_high : Int) (p_seeds : Nat → Int) (p_seedLows : Nat → Int) : Option (Int × Int × (Nat → Int) × (Nat → Int) × (Nat → Int) × Int × Int × Int × (Nat → Int) × (Nat → Int) × (Nat → Int) × (Nat → Int) × (Nat → Int) × (Nat → Int) × Int × (Nat → Int) × Nat × (Nat → Int) × Nat × Int × Int × (Nat → Int) × (Nat → Int)) :=
  (m_X3_renew b_spellingsOf b_spellingRows b_spellingLengths b_spellingPrices b_words b_wordSounds b_wordKinds b_wordClasses b_counts b_endings b_endingSounds b_endingClasses b_endingPrices b_prices b_stepCosts r_fixedValues r_heads r_rests r_known r_total r_length r_begins r_ends r_entries r_costs s_length s_letters s_breaks s_fixed v_values v_lettersRead v_columns p_now p_nowA p_next p_nextA p_low p_high p_seeds p_seedLows).bind fun (r_fixedValues_4, r_heads_4, r_rests_4, r_known_4, r_total_4, r_length_4, r_begins_4, r_ends_4, r_entries_4, r_costs_4, v_values_4, v_lettersRead_4, v_columns_4, p_now_4, p_nowA_4, p_next_4, p_nextA_4, p_low_4, p_high_4, p_seeds_4, p_seedLows_4) =>
  (zloop (fun a => m_X8_sign_11 x1 a.1 a.2 b_spellingsOf b_spellingRows b_spellingLengths b_spellingPrices b_words b_wordSounds b_wordSigns b_wordKinds b_wordClasses b_counts b_endings b_endingSounds b_endingSigns b_endingClasses b_endingPrices b_prices b_stepCosts r_fixedValues_4 r_heads_4 r_rests_4 r_known_4 r_total_4 r_length_4 r_begins_4 r_ends_4 r_entries_4 r_costs_4 s_length s_letters s_breaks s_fixed v_values_4 v_lettersRead_4 v_columns_4 p_now_4 p_nowA_4 p_next_4 p_nextA_4 p_low_4 p_high_4 p_seeds_4 p_seedLows_4) FU (0, 0)).bind fun (t_11, x2_11, x3_11) =>
  if t_11 = 1 then
    gd (inI x1) <|
    if x1 = (-1) then
      some (0, x2_11, r_fixedValues_4, r_heads_4, r_rests_4, r_known_4, r_total_4, r_length_4, r_begins_4, r_ends_4, r_entries_4, r_costs_4, v_values_4, v_lettersRead_4, v_columns_4, p_now_4, p_nowA_4, p_next_4, p_nextA_4, p_low_4, p_high_4, p_seeds_4, p_seedLows_4)
    else
      some (1, 0, r_fixedValues_4, r_heads_4, r_rests_4, r_known_4, r_total_4, r_length_4, r_begins_4, r_ends_4, r_entries_4, r_costs_4, v_values_4, v_lettersRead_4, v_columns_4, p_now_4, p_nowA_4, p_next_4, p_nextA_4, p_low_4, p_high_4, p_seeds_4, p_seedLows_4)
  else
    gd (0 ≤ x3_11 ∧ x3_11 < 36) <|
    gd (0 ≤ x3_11 ∧ x3_11 < 36) <|
    gd (0 ≤ (r_begins_4 (Int.toNat x3_11)) ∧ (r_begins_4 (Int.toNat x3_11)) < 36) <|
    (m_X1_signAt (r_entries_4 (Int.toNat x3_11)) (x1 - x2_11) (s_letters (Int.toNat (r_begins_4 (Int.toNat x3_11)))) b_wordSigns b_endingSigns).bind fun r_86 =>
    some (0, r_86, r_fixedValues_4, r_heads_4, r_rests_4, r_known_4, r_total_4, r_length_4, r_begins_4, r_ends_4, r_entries_4, r_costs_4, v_values_4, v_lettersRead_4, v_columns_4, p_now_4, p_nowA_4, p_next_4, p_nextA_4, p_low_4, p_high_4, p_seeds_4, p_seedLows_4)
def m_X8_choices (x1 : Int) (b_spellingsOf : Nat → Int) (b_spellingRows : Nat → Int) (b_spellingLengths : Nat → Int) (b_spellingPrices : Nat → Int) (b_words : Int) (b_wordSounds : Nat → Int) (b_wordKinds : Nat → Int) (b_wordClasses : Nat → Int) (b_counts : Nat → Int) (b_endings : Int) (b_endingSounds : Nat → Int) (b_endingClasses : Nat → Int) (b_endingPrices : Nat → Int) (b_prices : Nat → Int) (b_stepCosts : Nat → Int) (o_tails : Nat → Int) (o_leads : Nat → Int) (o_leadsKnown : Int) (o_listedPart : Int) (o_length : Int) (o_entries : Nat → Int) (o_costs : Nat → Int) (r_fixedValues : Nat → Int) (r_heads : Nat → Int) (r_rests : Nat → Int) (r_known : Int) (r_total : Int) (r_length : Int) (r_begins : Nat → Int) (r_ends : Nat → Int) (r_entries : Nat → Int) (r_costs : Nat → Int) (s_length : Int) (s_letters : Nat → Int) (s_breaks : Nat → Int) (s_fixed : Nat → Int) (v_values : Nat → Int) (v_lettersRead : Nat → Int) (v_columns : Int) (p_now : Nat → Int) (p_nowA : Nat) (p_next : Nat → Int) (p_nextA : Nat) (p_low : Int) (p_high : Int) (p_seeds : Nat → Int) (p_seedLows : Nat → Int) : Option (Int × Int × (Nat → Int) × (Nat → Int) × Int × Int × Int × (Nat → Int) × (Nat → Int) × (Nat → Int) × (Nat → Int) × (Nat → Int) × Int × Int × Int × (Nat → Int) × (Nat → Int) × (Nat → Int) × (Nat → Int) × (Nat → Int) × (Nat → Int) × Int × (Nat → Int) × Nat × (Nat → Int) × Nat × Int × Int × (Nat → Int) × (Nat → Int)) :=
  (m_X3_renew b_spellingsOf b_spellingRows b_spellingLengths b_spellingPrices b_words b_wordSounds b_wordKinds b_wordClasses b_counts b_endings b_endingSounds b_endingClasses b_endingPrices b_prices b_stepCosts r_fixedValues r_heads r_rests r_known r_total r_length r_begins r_ends r_entries r_costs s_length s_letters s_breaks s_fixed v_values v_lettersRead v_columns p_now p_nowA p_next p_nextA p_low p_high p_seeds p_seedLows).bind fun (r_fixedValues_4, r_heads_4, r_rests_4, r_known_4, r_total_4, r_length_4, r_begins_4, r_ends_4, r_entries_4, r_costs_4, v_values_4, v_lettersRead_4, v_columns_4, p_now_4, p_nowA_4, p_next_4, p_nextA_4, p_low_4, p_high_4, p_seeds_4, p_seedLows_4) =>
  (m_X2_list x1 b_spellingsOf b_spellingRows b_spellingLengths b_spellingPrices b_words b_wordSounds b_wordKinds b_wordClasses b_counts b_endings b_endingSounds b_endingClasses b_endingPrices b_prices b_stepCosts o_tails o_leads o_leadsKnown o_listedPart o_length o_entries o_costs r_fixedValues_4 r_rests_4 r_length_4 r_begins_4 r_ends_4 s_length s_letters s_breaks s_fixed v_values_4 p_now_4 p_nowA_4 p_next_4 p_nextA_4 p_low_4 p_high_4).bind fun (r_12, o_tails_12, o_leads_12, o_leadsKnown_12, o_listedPart_12, o_length_12, o_entries_12, o_costs_12, p_now_12, p_nowA_12, p_next_12, p_nextA_12, p_low_12, p_high_12) =>
  gd (inI r_12) <|
  if r_12 = 0 then
    some (1, 0, o_tails_12, o_leads_12, o_leadsKnown_12, o_listedPart_12, o_length_12, o_entries_12, o_costs_12, r_fixedValues_4, r_heads_4, r_rests_4, r_known_4, r_total_4, r_length_4, r_begins_4, r_ends_4, r_entries_4, r_costs_4, v_values_4, v_lettersRead_4, v_columns_4, p_now_12, p_nowA_12, p_next_12, p_nextA_12, p_low_12, p_high_12, p_seeds_4, p_seedLows_4)
  else
    some (0, o_length_12, o_tails_12, o_leads_12, o_leadsKnown_12, o_listedPart_12, o_length_12, o_entries_12, o_costs_12, r_fixedValues_4, r_heads_4, r_rests_4, r_known_4, r_total_4, r_length_4, r_begins_4, r_ends_4, r_entries_4, r_costs_4, v_values_4, v_lettersRead_4, v_columns_4, p_now_12, p_nowA_12, p_next_12, p_nextA_12, p_low_12, p_high_12, p_seeds_4, p_seedLows_4)
def m_X8_choice (x1 : Int) (x2 : Int) (x3 : Int) (b_spellingsOf : Nat → Int) (b_spellingRows : Nat → Int) (b_spellingLengths : Nat → Int) (b_spellingPrices : Nat → Int) (b_words : Int) (b_wordSounds : Nat → Int) (b_wordKinds : Nat → Int) (b_wordClasses : Nat → Int) (b_counts : Nat → Int) (b_endings : Int) (b_endingSounds : Nat → Int) (b_endingClasses : Nat → Int) (b_endingPrices : Nat → Int) (b_prices : Nat → Int) (b_stepCosts : Nat → Int) (o_tails : Nat → Int) (o_leads : Nat → Int) (o_leadsKnown : Int) (o_listedPart : Int) (o_length : Int) (o_entries : Nat → Int) (o_costs : Nat → Int) (r_fixedValues : Nat → Int) (r_heads : Nat → Int) (r_rests : Nat → Int) (r_known : Int) (r_total : Int) (r_length : Int) (r_begins : Nat → Int) (r_ends : Nat → Int) (r_entries : Nat → Int) (r_costs : Nat → Int) (s_length : Int) (s_letters : Nat → Int) (s_breaks : Nat → Int) (s_fixed : Nat → Int) (v_values : Nat → Int) (v_lettersRead : Nat → Int) (v_columns : Int) (p_now : Nat → Int) (p_nowA : Nat) (p_next : Nat → Int) (p_nextA : Nat) (p_low : Int) (p_high : Int) (p_seeds : Nat → Int) (p_seedLows : Nat → Int) : Option (Int × Int × (Nat → Int) × (Nat → Int) × Int × Int × Int × (Nat → Int) × (Nat → Int) × (Nat → Int) × (Nat → Int) × (Nat → Int) × Int × Int × Int × (Nat → Int) × (Nat → Int) × (Nat → Int) × (Nat → Int) × (Nat → Int) × (Nat → Int) × Int × (Nat → Int) × Nat × (Nat → Int) × Nat × Int × Int × (Nat → Int) × (Nat → Int)) :=
  (m_X3_renew b_spellingsOf b_spellingRows b_spellingLengths b_spellingPrices b_words b_wordSounds b_wordKinds b_wordClasses b_counts b_endings b_endingSounds b_endingClasses b_endingPrices b_prices b_stepCosts r_fixedValues r_heads r_rests r_known r_total r_length r_begins r_ends r_entries r_costs s_length s_letters s_breaks s_fixed v_values v_lettersRead v_columns p_now p_nowA p_next p_nextA p_low p_high p_seeds p_seedLows).bind fun (r_fixedValues_4, r_heads_4, r_rests_4, r_known_4, r_total_4, r_length_4, r_begins_4, r_ends_4, r_entries_4, r_costs_4, v_values_4, v_lettersRead_4, v_columns_4, p_now_4, p_nowA_4, p_next_4, p_nextA_4, p_low_4, p_high_4, p_seeds_4, p_seedLows_4) =>
  (m_X2_list x1 b_spellingsOf b_spellingRows b_spellingLengths b_spellingPrices b_words b_wordSounds b_wordKinds b_wordClasses b_counts b_endings b_endingSounds b_endingClasses b_endingPrices b_prices b_stepCosts o_tails o_leads o_leadsKnown o_listedPart o_length o_entries o_costs r_fixedValues_4 r_rests_4 r_length_4 r_begins_4 r_ends_4 s_length s_letters s_breaks s_fixed v_values_4 p_now_4 p_nowA_4 p_next_4 p_nextA_4 p_low_4 p_high_4).bind fun (r_12, o_tails_12, o_leads_12, o_leadsKnown_12, o_listedPart_12, o_length_12, o_entries_12, o_costs_12, p_now_12, p_nowA_12, p_next_12, p_nextA_12, p_low_12, p_high_12) =>
  gd (inI r_12) <|
  if r_12 = 0 then
    some (1, 0, o_tails_12, o_leads_12, o_leadsKnown_12, o_listedPart_12, o_length_12, o_entries_12, o_costs_12, r_fixedValues_4, r_heads_4, r_rests_4, r_known_4, r_total_4, r_length_4, r_begins_4, r_ends_4, r_entries_4, r_costs_4, v_values_4, v_lettersRead_4, v_columns_4, p_now_12, p_nowA_12, p_next_12, p_nextA_12, p_low_12, p_high_12, p_seeds_4, p_seedLows_4)
  else
    gd (inI x2) <|
    if x2 < 0 then
      some (1, 0, o_tails_12, o_leads_12, o_leadsKnown_12, o_listedPart_12, o_length_12, o_entries_12, o_costs_12, r_fixedValues_4, r_heads_4, r_rests_4, r_known_4, r_total_4, r_length_4, r_begins_4, r_ends_4, r_entries_4, r_costs_4, v_values_4, v_lettersRead_4, v_columns_4, p_now_12, p_nowA_12, p_next_12, p_nextA_12, p_low_12, p_high_12, p_seeds_4, p_seedLows_4)
    else
      gd (inI o_length_12) <|
      if x2 < o_length_12 then
        gd (inI x3) <|
        if x3 = 0 then
          gd (0 ≤ x2 ∧ x2 < 12) <|
          (m_X8_wordOf (o_entries_12 (Int.toNat x2))).bind fun r_81 =>
          some (0, r_81, o_tails_12, o_leads_12, o_leadsKnown_12, o_listedPart_12, o_length_12, o_entries_12, o_costs_12, r_fixedValues_4, r_heads_4, r_rests_4, r_known_4, r_total_4, r_length_4, r_begins_4, r_ends_4, r_entries_4, r_costs_4, v_values_4, v_lettersRead_4, v_columns_4, p_now_12, p_nowA_12, p_next_12, p_nextA_12, p_low_12, p_high_12, p_seeds_4, p_seedLows_4)
        else
        if x3 = 1 then
          gd (0 ≤ x2 ∧ x2 < 12) <|
          (m_X8_endingOf (o_entries_12 (Int.toNat x2))).bind fun r_94 =>
          some (0, r_94, o_tails_12, o_leads_12, o_leadsKnown_12, o_listedPart_12, o_length_12, o_entries_12, o_costs_12, r_fixedValues_4, r_heads_4, r_rests_4, r_known_4, r_total_4, r_length_4, r_begins_4, r_ends_4, r_entries_4, r_costs_4, v_values_4, v_lettersRead_4, v_columns_4, p_now_12, p_nowA_12, p_next_12, p_nextA_12, p_low_12, p_high_12, p_seeds_4, p_seedLows_4)
        else
        if x3 = 2 then
          gd (0 ≤ x2 ∧ x2 < 12) <|
          some (0, (o_costs_12 (Int.toNat x2)), o_tails_12, o_leads_12, o_leadsKnown_12, o_listedPart_12, o_length_12, o_entries_12, o_costs_12, r_fixedValues_4, r_heads_4, r_rests_4, r_known_4, r_total_4, r_length_4, r_begins_4, r_ends_4, r_entries_4, r_costs_4, v_values_4, v_lettersRead_4, v_columns_4, p_now_12, p_nowA_12, p_next_12, p_nextA_12, p_low_12, p_high_12, p_seeds_4, p_seedLows_4)
        else
        some (1, 0, o_tails_12, o_leads_12, o_leadsKnown_12, o_listedPart_12, o_length_12, o_entries_12, o_costs_12, r_fixedValues_4, r_heads_4, r_rests_4, r_known_4, r_total_4, r_length_4, r_begins_4, r_ends_4, r_entries_4, r_costs_4, v_values_4, v_lettersRead_4, v_columns_4, p_now_12, p_nowA_12, p_next_12, p_nextA_12, p_low_12, p_high_12, p_seeds_4, p_seedLows_4)
      else
        some (1, 0, o_tails_12, o_leads_12, o_leadsKnown_12, o_listedPart_12, o_length_12, o_entries_12, o_costs_12, r_fixedValues_4, r_heads_4, r_rests_4, r_known_4, r_total_4, r_length_4, r_begins_4, r_ends_4, r_entries_4, r_costs_4, v_values_4, v_lettersRead_4, v_columns_4, p_now_12, p_nowA_12, p_next_12, p_nextA_12, p_low_12, p_high_12, p_seeds_4, p_seedLows_4)
def m_X8_choose (x1 : Int) (x2 : Int) (a_ring : List zSv) (a_next : Int) (a_kept : Int) (b_spellingsOf : Nat → Int) (b_spellingRows : Nat → Int) (b_spellingLengths : Nat → Int) (b_spellingPrices : Nat → Int) (b_words : Int) (b_wordSounds : Nat → Int) (b_wordKinds : Nat → Int) (b_wordClasses : Nat → Int) (b_counts : Nat → Int) (b_endings : Int) (b_endingSounds : Nat → Int) (b_endingClasses : Nat → Int) (b_endingPrices : Nat → Int) (b_prices : Nat → Int) (b_stepCosts : Nat → Int) (o_tails : Nat → Int) (o_leads : Nat → Int) (o_leadsKnown : Int) (o_listedPart : Int) (o_length : Int) (o_entries : Nat → Int) (o_costs : Nat → Int) (r_fixedValues : Nat → Int) (r_heads : Nat → Int) (r_rests : Nat → Int) (r_known : Int) (r_total : Int) (r_length : Int) (r_begins : Nat → Int) (r_ends : Nat → Int) (r_entries : Nat → Int) (r_costs : Nat → Int) (s_length : Int) (s_letters : Nat → Int) (s_breaks : Nat → Int) (s_fixed : Nat → Int) (v_values : Nat → Int) (v_lettersRead : Nat → Int) (v_columns : Int) (p_now : Nat → Int) (p_nowA : Nat) (p_next : Nat → Int) (p_nextA : Nat) (p_low : Int) (p_high : Int) (p_seeds : Nat → Int) (p_seedLows : Nat → Int) : Option (Int × List zSv × Int × Int × (Nat → Int) × (Nat → Int) × Int × Int × Int × (Nat → Int) × (Nat → Int) × (Nat → Int) × (Nat → Int) × (Nat → Int) × Int × Int × Int × (Nat → Int) × (Nat → Int) × (Nat → Int) × (Nat → Int) × (Nat → Int) × (Nat → Int) × (Nat → Int) × (Nat → Int) × Int × (Nat → Int) × Nat × (Nat → Int) × Nat × Int × Int × (Nat → Int) × (Nat → Int)) :=
  (m_X3_renew b_spellingsOf b_spellingRows b_spellingLengths b_spellingPrices b_words b_wordSounds b_wordKinds b_wordClasses b_counts b_endings b_endingSounds b_endingClasses b_endingPrices b_prices b_stepCosts r_fixedValues r_heads r_rests r_known r_total r_length r_begins r_ends r_entries r_costs s_length s_letters s_breaks s_fixed v_values v_lettersRead v_columns p_now p_nowA p_next p_nextA p_low p_high p_seeds p_seedLows).bind fun (r_fixedValues_4, r_heads_4, r_rests_4, r_known_4, r_total_4, r_length_4, r_begins_4, r_ends_4, r_entries_4, r_costs_4, v_values_4, v_lettersRead_4, v_columns_4, p_now_4, p_nowA_4, p_next_4, p_nextA_4, p_low_4, p_high_4, p_seeds_4, p_seedLows_4) =>
  (m_X2_list x1 b_spellingsOf b_spellingRows b_spellingLengths b_spellingPrices b_words b_wordSounds b_wordKinds b_wordClasses b_counts b_endings b_endingSounds b_endingClasses b_endingPrices b_prices b_stepCosts o_tails o_leads o_leadsKnown o_listedPart o_length o_entries o_costs r_fixedValues_4 r_rests_4 r_length_4 r_begins_4 r_ends_4 s_length s_letters s_breaks s_fixed v_values_4 p_now_4 p_nowA_4 p_next_4 p_nextA_4 p_low_4 p_high_4).bind fun (r_12, o_tails_12, o_leads_12, o_leadsKnown_12, o_listedPart_12, o_length_12, o_entries_12, o_costs_12, p_now_12, p_nowA_12, p_next_12, p_nextA_12, p_low_12, p_high_12) =>
  gd (inI r_12) <|
  if r_12 = 0 then
    some (1, a_ring, a_next, a_kept, o_tails_12, o_leads_12, o_leadsKnown_12, o_listedPart_12, o_length_12, o_entries_12, o_costs_12, r_fixedValues_4, r_heads_4, r_rests_4, r_known_4, r_total_4, r_length_4, r_begins_4, r_ends_4, r_entries_4, r_costs_4, s_breaks, s_fixed, v_values_4, v_lettersRead_4, v_columns_4, p_now_12, p_nowA_12, p_next_12, p_nextA_12, p_low_12, p_high_12, p_seeds_4, p_seedLows_4)
  else
    gd (inI x2) <|
    if x2 < 0 then
      some (1, a_ring, a_next, a_kept, o_tails_12, o_leads_12, o_leadsKnown_12, o_listedPart_12, o_length_12, o_entries_12, o_costs_12, r_fixedValues_4, r_heads_4, r_rests_4, r_known_4, r_total_4, r_length_4, r_begins_4, r_ends_4, r_entries_4, r_costs_4, s_breaks, s_fixed, v_values_4, v_lettersRead_4, v_columns_4, p_now_12, p_nowA_12, p_next_12, p_nextA_12, p_low_12, p_high_12, p_seeds_4, p_seedLows_4)
    else
      gd (inI o_length_12) <|
      if x2 < o_length_12 then
        gd (0 ≤ x2 ∧ x2 < 12) <|
        vl (o_entries_12 (Int.toNat x2)) fun x3_52 =>
        (m_X8_beginAct a_ring a_next a_kept o_leadsKnown_12 o_listedPart_12 r_known_4 s_length s_letters s_breaks s_fixed).bind fun (a_ring_54, a_next_54, a_kept_54, o_leadsKnown_54, o_listedPart_54, r_known_54) =>
        gd (0 ≤ x1 ∧ x1 < 36) <|
        gd (0 ≤ x1 ∧ x1 < 36) <|
        (m_X4_fix (r_begins_4 (Int.toNat x1)) (r_ends_4 (Int.toNat x1)) x3_52 s_length s_breaks s_fixed).bind fun (s_breaks_80, s_fixed_80) =>
        some (0, a_ring_54, a_next_54, a_kept_54, o_tails_12, o_leads_12, o_leadsKnown_54, o_listedPart_54, o_length_12, o_entries_12, o_costs_12, r_fixedValues_4, r_heads_4, r_rests_4, r_known_54, r_total_4, r_length_4, r_begins_4, r_ends_4, r_entries_4, r_costs_4, s_breaks_80, s_fixed_80, v_values_4, v_lettersRead_4, v_columns_4, p_now_12, p_nowA_12, p_next_12, p_nextA_12, p_low_12, p_high_12, p_seeds_4, p_seedLows_4)
      else
        some (1, a_ring, a_next, a_kept, o_tails_12, o_leads_12, o_leadsKnown_12, o_listedPart_12, o_length_12, o_entries_12, o_costs_12, r_fixedValues_4, r_heads_4, r_rests_4, r_known_4, r_total_4, r_length_4, r_begins_4, r_ends_4, r_entries_4, r_costs_4, s_breaks, s_fixed, v_values_4, v_lettersRead_4, v_columns_4, p_now_12, p_nowA_12, p_next_12, p_nextA_12, p_low_12, p_high_12, p_seeds_4, p_seedLows_4)
def m_X8_setBreak (x1 : Int) (x2 : Int) (a_ring : List zSv) (a_next : Int) (a_kept : Int) (o_leadsKnown : Int) (o_listedPart : Int) (r_known : Int) (s_length : Int) (s_letters : Nat → Int) (s_breaks : Nat → Int) (s_fixed : Nat → Int) : Option (Int × Int × List zSv × Int × Int × Int × Int × Int × (Nat → Int) × (Nat → Int)) :=
  gd (inI x1) <|
  if x1 < 1 then
    some (1, 0, a_ring, a_next, a_kept, o_leadsKnown, o_listedPart, r_known, s_breaks, s_fixed)
  else
    gd (inI s_length) <|
    if s_length ≤ x1 then
      some (1, 0, a_ring, a_next, a_kept, o_leadsKnown, o_listedPart, r_known, s_breaks, s_fixed)
    else
      gd (inI x2) <|
      if x2 < 0 then
        some (1, 0, a_ring, a_next, a_kept, o_leadsKnown, o_listedPart, r_known, s_breaks, s_fixed)
      else
        if x2 ≤ 2 then
          gd (0 ≤ x1 ∧ x1 < 36) <|
          vl (s_breaks (Int.toNat x1)) fun x3_44 =>
          (m_X8_beginAct a_ring a_next a_kept o_leadsKnown o_listedPart r_known s_length s_letters s_breaks s_fixed).bind fun (a_ring_46, a_next_46, a_kept_46, o_leadsKnown_46, o_listedPart_46, r_known_46) =>
          (m_X4_moveBreak x1 x2 s_breaks s_fixed).bind fun (s_breaks_55, s_fixed_55) =>
          some (0, x3_44, a_ring_46, a_next_46, a_kept_46, o_leadsKnown_46, o_listedPart_46, r_known_46, s_breaks_55, s_fixed_55)
        else
          some (1, 0, a_ring, a_next, a_kept, o_leadsKnown, o_listedPart, r_known, s_breaks, s_fixed)
def m_X8_free (a_ring : List zSv) (a_next : Int) (a_kept : Int) (o_leadsKnown : Int) (o_listedPart : Int) (r_known : Int) (s_length : Int) (s_letters : Nat → Int) (s_breaks : Nat → Int) (s_fixed : Nat → Int) : Option (Int × List zSv × Int × Int × Int × Int × Int × (Nat → Int) × (Nat → Int)) :=
  (m_X4_fixedParts s_fixed).bind fun r_4 =>
  (m_X8_beginAct a_ring a_next a_kept o_leadsKnown o_listedPart r_known s_length s_letters s_breaks s_fixed).bind fun (a_ring_9, a_next_9, a_kept_9, o_leadsKnown_9, o_listedPart_9, r_known_9) =>
  (m_X4_freeHand s_breaks s_fixed).bind fun (s_breaks_16, s_fixed_16) =>
  some (r_4, a_ring_9, a_next_9, a_kept_9, o_leadsKnown_9, o_listedPart_9, r_known_9, s_breaks_16, s_fixed_16)
def m_X8_empty (a_ring : List zSv) (a_next : Int) (a_kept : Int) (o_leadsKnown : Int) (o_listedPart : Int) (r_known : Int) (s_length : Int) (s_letters : Nat → Int) (s_breaks : Nat → Int) (s_fixed : Nat → Int) : Option (Int × List zSv × Int × Int × Int × Int × Int × Int × (Nat → Int) × (Nat → Int)) :=
  (m_X8_beginAct a_ring a_next a_kept o_leadsKnown o_listedPart r_known s_length s_letters s_breaks s_fixed).bind fun (a_ring_9, a_next_9, a_kept_9, o_leadsKnown_9, o_listedPart_9, r_known_9) =>
  (m_X4_clear s_length s_breaks s_fixed).bind fun (s_length_16, s_breaks_16, s_fixed_16) =>
  some (s_length, a_ring_9, a_next_9, a_kept_9, o_leadsKnown_9, o_listedPart_9, r_known_9, s_length_16, s_breaks_16, s_fixed_16)
def m_X8_back (a_ring : List zSv) (a_next : Int) (a_kept : Int) (o_leadsKnown : Int) (o_listedPart : Int) (r_known : Int) (s_length : Int) (s_letters : Nat → Int) (s_breaks : Nat → Int) (s_fixed : Nat → Int) : Option (Int × Int × Int × Int × Int × Int × Int × (Nat → Int) × (Nat → Int) × (Nat → Int)) :=
  (m_X8_lineChanged o_leadsKnown o_listedPart r_known).bind fun (o_leadsKnown_1, o_listedPart_1, r_known_1) =>
  (m_X0_undo a_ring a_next a_kept s_length s_letters s_breaks s_fixed).bind fun (r_12, a_next_12, a_kept_12, s_length_12, s_letters_12, s_breaks_12, s_fixed_12) =>
  gd (r_12 = 0 ∨ r_12 = 1) <|
  some (r_12, a_next_12, a_kept_12, o_leadsKnown_1, o_listedPart_1, r_known_1, s_length_12, s_letters_12, s_breaks_12, s_fixed_12)
def m_X8_count (x1 : Int) (b_words : Int) (b_counts : Nat → Int) : Option (Int × Int) :=
  gd (inI x1) <|
  if x1 < 0 then
    some (1, 0)
  else
    gd (inI b_words) <|
    if x1 < b_words then
      gd (0 ≤ x1 ∧ x1 < 60) <|
      some (0, (b_counts (Int.toNat x1)))
    else
      some (1, 0)
def m_X8_pairs (x1 : Int) (x2 : Int) (b_pairsOf : Nat → Int) : Option (Int × Int) :=
  (m_X8_areKinds x1 x2).bind fun r_2 =>
  gd (inI r_2) <|
  if r_2 = 0 then
    some (1, 0)
  else
    gd (0 ≤ ((x1 * 9) + x2) ∧ ((x1 * 9) + x2) < 81) <|
    some (0, (b_pairsOf (Int.toNat ((x1 * 9) + x2))))
def m_X8_about (x1 : Int) (a_kept : Int) (b_words : Int) (b_endings : Int) (s_fixed : Nat → Int) (t_kept : Int) : Option (Int × Int) :=
  gd (inI x1) <|
  if x1 = 0 then
    some (0, b_words)
  else
  if x1 = 1 then
    some (0, b_endings)
  else
  if x1 = 2 then
    some (0, a_kept)
  else
  if x1 = 3 then
    some (0, t_kept)
  else
  if x1 = 4 then
    (m_X4_fixedParts s_fixed).bind fun r_72 =>
    some (0, r_72)
  else
  some (1, 0)
def m_L_typed (x1 : Int) (s_length : Int) (s_letters : Nat → Int) (o0 : Nat → Int) : Option (Int × (Nat → Int)) :=
  (m_X8_typed x1 s_length s_letters).bind fun (cd, r) =>
  if cd = 0 then
    gd (inI r) <|
    vl (uz o0 0 r) fun o1 =>
    some (0, o1)
  else
    some (1, o0)
def m_L_price (x1 : Int) (x2 : Int) (b_prices : Nat → Int) (o_leadsKnown : Int) (o_listedPart : Int) (r_known : Int) (v_columns : Int) (o0 : Nat → Int) : Option (Int × (Nat → Int) × (Nat → Int) × Int × Int × Int × Int) :=
  (m_X8_price x1 x2 b_prices o_leadsKnown o_listedPart r_known v_columns).bind fun (cd, r, b_prices_n, o_leadsKnown_n, o_listedPart_n, r_known_n, v_columns_n) =>
  if cd = 0 then
    gd (inI r) <|
    vl (uz o0 0 r) fun o1 =>
    some (0, o1, b_prices_n, o_leadsKnown_n, o_listedPart_n, r_known_n, v_columns_n)
  else
    some (1, o0, b_prices_n, o_leadsKnown_n, o_listedPart_n, r_known_n, v_columns_n)
def m_L_spelling (x1 : Int) (x2 : Int) (x4 : Int) (b_spellingsOf : Nat → Int) (b_spellingRows : Nat → Int) (b_spellingLengths : Nat → Int) (b_spellingPrices : Nat → Int) (o_leadsKnown : Int) (o_listedPart : Int) (r_known : Int) (v_columns : Int) (o0 : Nat → Int) : Option (Int × (Nat → Int) × (Nat → Int) × (Nat → Int) × (Nat → Int) × (Nat → Int) × Int × Int × Int × Int) :=
  (m_X8_spelling x1 x2 x4 b_spellingsOf b_spellingRows b_spellingLengths b_spellingPrices o_leadsKnown o_listedPart r_known v_columns).bind fun (cd, r, b_spellingsOf_n, b_spellingRows_n, b_spellingLengths_n, b_spellingPrices_n, o_leadsKnown_n, o_listedPart_n, r_known_n, v_columns_n) =>
  if cd = 0 then
    gd (inI r) <|
    vl (uz o0 0 r) fun o1 =>
    some (0, o1, b_spellingsOf_n, b_spellingRows_n, b_spellingLengths_n, b_spellingPrices_n, o_leadsKnown_n, o_listedPart_n, r_known_n, v_columns_n)
  else
    some (1, o0, b_spellingsOf_n, b_spellingRows_n, b_spellingLengths_n, b_spellingPrices_n, o_leadsKnown_n, o_listedPart_n, r_known_n, v_columns_n)
def m_L_word (x1 : Int) (x3 : Int) (x5 : Int) (x6 : Int) (b_words : Int) (b_wordSounds : Nat → Int) (b_wordSigns : Nat → Int) (b_wordKinds : Nat → Int) (b_wordClasses : Nat → Int) (o_leadsKnown : Int) (o_listedPart : Int) (r_known : Int) (v_columns : Int) (o0 : Nat → Int) : Option (Int × (Nat → Int) × Int × (Nat → Int) × (Nat → Int) × (Nat → Int) × (Nat → Int) × Int × Int × Int × Int) :=
  (m_X8_word x1 x3 x5 x6 b_words b_wordSounds b_wordSigns b_wordKinds b_wordClasses o_leadsKnown o_listedPart r_known v_columns).bind fun (cd, r, b_words_n, b_wordSounds_n, b_wordSigns_n, b_wordKinds_n, b_wordClasses_n, o_leadsKnown_n, o_listedPart_n, r_known_n, v_columns_n) =>
  if cd = 0 then
    gd (inI r) <|
    vl (uz o0 0 r) fun o1 =>
    some (0, o1, b_words_n, b_wordSounds_n, b_wordSigns_n, b_wordKinds_n, b_wordClasses_n, o_leadsKnown_n, o_listedPart_n, r_known_n, v_columns_n)
  else
    some (1, o0, b_words_n, b_wordSounds_n, b_wordSigns_n, b_wordKinds_n, b_wordClasses_n, o_leadsKnown_n, o_listedPart_n, r_known_n, v_columns_n)
def m_L_ending (x1 : Int) (x3 : Int) (x4 : Int) (x5 : Int) (b_endings : Int) (b_endingSounds : Nat → Int) (b_endingSigns : Nat → Int) (b_endingClasses : Nat → Int) (b_endingPrices : Nat → Int) (o_leadsKnown : Int) (o_listedPart : Int) (r_known : Int) (v_columns : Int) (o0 : Nat → Int) : Option (Int × (Nat → Int) × Int × (Nat → Int) × (Nat → Int) × (Nat → Int) × (Nat → Int) × Int × Int × Int × Int) :=
  (m_X8_ending x1 x3 x4 x5 b_endings b_endingSounds b_endingSigns b_endingClasses b_endingPrices o_leadsKnown o_listedPart r_known v_columns).bind fun (cd, r, b_endings_n, b_endingSounds_n, b_endingSigns_n, b_endingClasses_n, b_endingPrices_n, o_leadsKnown_n, o_listedPart_n, r_known_n, v_columns_n) =>
  if cd = 0 then
    gd (inI r) <|
    vl (uz o0 0 r) fun o1 =>
    some (0, o1, b_endings_n, b_endingSounds_n, b_endingSigns_n, b_endingClasses_n, b_endingPrices_n, o_leadsKnown_n, o_listedPart_n, r_known_n, v_columns_n)
  else
    some (1, o0, b_endings_n, b_endingSounds_n, b_endingSigns_n, b_endingClasses_n, b_endingPrices_n, o_leadsKnown_n, o_listedPart_n, r_known_n, v_columns_n)
def m_L_step (x1 : Int) (x2 : Int) (x3 : Int) (b_stepPrices : Nat → Int) (b_pairsOf : Nat → Int) (b_stepCosts : Nat → Int) (o_leadsKnown : Int) (o_listedPart : Int) (r_known : Int) (o0 : Nat → Int) : Option (Int × (Nat → Int) × (Nat → Int) × (Nat → Int) × Int × Int × Int) :=
  (m_X8_step x1 x2 x3 b_stepPrices b_pairsOf b_stepCosts o_leadsKnown o_listedPart r_known).bind fun (cd, r, b_stepPrices_n, b_stepCosts_n, o_leadsKnown_n, o_listedPart_n, r_known_n) =>
  if cd = 0 then
    gd (inI r) <|
    vl (uz o0 0 r) fun o1 =>
    some (0, o1, b_stepPrices_n, b_stepCosts_n, o_leadsKnown_n, o_listedPart_n, r_known_n)
  else
    some (1, o0, b_stepPrices_n, b_stepCosts_n, o_leadsKnown_n, o_listedPart_n, r_known_n)
def m_L_type (x1 : Int) (a_ring : List zSv) (a_next : Int) (a_kept : Int) (o_leadsKnown : Int) (o_listedPart : Int) (r_known : Int) (s_length : Int) (s_letters : Nat → Int) (s_breaks : Nat → Int) (s_fixed : Nat → Int) (o0 : Nat → Int) : Option (Int × (Nat → Int) × List zSv × Int × Int × Int × Int × Int × Int × (Nat → Int) × (Nat → Int)) :=
  (m_X8_type x1 a_ring a_next a_kept o_leadsKnown o_listedPart r_known s_length s_letters s_breaks s_fixed).bind fun (cd, r, a_ring_n, a_next_n, a_kept_n, o_leadsKnown_n, o_listedPart_n, r_known_n, s_length_n, s_letters_n, s_breaks_n) =>
  if cd = 0 then
    gd (inI r) <|
    vl (uz o0 0 r) fun o1 =>
    some (0, o1, a_ring_n, a_next_n, a_kept_n, o_leadsKnown_n, o_listedPart_n, r_known_n, s_length_n, s_letters_n, s_breaks_n)
  else
    some (1, o0, a_ring_n, a_next_n, a_kept_n, o_leadsKnown_n, o_listedPart_n, r_known_n, s_length_n, s_letters_n, s_breaks_n)
def m_L_part (x1 : Int) (x2 : Int) (b_spellingsOf : Nat → Int) (b_spellingRows : Nat → Int) (b_spellingLengths : Nat → Int) (b_spellingPrices : Nat → Int) (b_words : Int) (b_wordSounds : Nat → Int) (b_wordKinds : Nat → Int) (b_wordClasses : Nat → Int) (b_counts : Nat → Int) (b_endings : Int) (b_endingSounds : Nat → Int) (b_endingClasses : Nat → Int) (b_endingPrices : Nat → Int) (b_prices : Nat → Int) (b_stepCosts : Nat → Int) (r_fixedValues : Nat → Int) (r_heads : Nat → Int) (r_rests : Nat → Int) (r_known : Int) (r_total : Int) (r_length : Int) (r_begins : Nat → Int) (r_ends : Nat → Int) (r_entries : Nat → Int) (r_costs : Nat → Int) (s_length : Int) (s_letters : Nat → Int) (s_breaks : Nat → Int) (s_fixed : Nat → Int) (v_values : Nat → Int) (v_lettersRead : Nat → Int) (v_columns : Int) (p_now : Nat → Int) (p_nowA : Nat) (p_next : Nat → Int) (p_nextA : Nat) (p_low : Int) (p_high : Int) (p_seeds : Nat → Int) (p_seedLows : Nat → Int) (o0 : Nat → Int) : Option (Int × (Nat → Int) × (Nat → Int) × (Nat → Int) × (Nat → Int) × Int × Int × Int × (Nat → Int) × (Nat → Int) × (Nat → Int) × (Nat → Int) × (Nat → Int) × (Nat → Int) × Int × (Nat → Int) × Nat × (Nat → Int) × Nat × Int × Int × (Nat → Int) × (Nat → Int)) :=
  (m_X8_part x1 x2 b_spellingsOf b_spellingRows b_spellingLengths b_spellingPrices b_words b_wordSounds b_wordKinds b_wordClasses b_counts b_endings b_endingSounds b_endingClasses b_endingPrices b_prices b_stepCosts r_fixedValues r_heads r_rests r_known r_total r_length r_begins r_ends r_entries r_costs s_length s_letters s_breaks s_fixed v_values v_lettersRead v_columns p_now p_nowA p_next p_nextA p_low p_high p_seeds p_seedLows).bind fun (cd, r, r_fixedValues_n, r_heads_n, r_rests_n, r_known_n, r_total_n, r_length_n, r_begins_n, r_ends_n, r_entries_n, r_costs_n, v_values_n, v_lettersRead_n, v_columns_n, p_now_n, p_nowA_n, p_next_n, p_nextA_n, p_low_n, p_high_n, p_seeds_n, p_seedLows_n) =>
  if cd = 0 then
    gd (inI r) <|
    vl (uz o0 0 r) fun o1 =>
    some (0, o1, r_fixedValues_n, r_heads_n, r_rests_n, r_known_n, r_total_n, r_length_n, r_begins_n, r_ends_n, r_entries_n, r_costs_n, v_values_n, v_lettersRead_n, v_columns_n, p_now_n, p_nowA_n, p_next_n, p_nextA_n, p_low_n, p_high_n, p_seeds_n, p_seedLows_n)
  else
    some (1, o0, r_fixedValues_n, r_heads_n, r_rests_n, r_known_n, r_total_n, r_length_n, r_begins_n, r_ends_n, r_entries_n, r_costs_n, v_values_n, v_lettersRead_n, v_columns_n, p_now_n, p_nowA_n, p_next_n, p_nextA_n, p_low_n, p_high_n, p_seeds_n, p_seedLows_n)
def m_L_sign (x1 : Int) (b_spellingsOf : Nat → Int) (b_spellingRows : Nat → Int) (b_spellingLengths : Nat → Int) (b_spellingPrices : Nat → Int) (b_words : Int) (b_wordSounds : Nat → Int) (b_wordSigns : Nat → Int) (b_wordKinds : Nat → Int) (b_wordClasses : Nat → Int) (b_counts : Nat → Int) (b_endings : Int) (b_endingSounds : Nat → Int) (b_endingSigns : Nat → Int) (b_endingClasses : Nat → Int) (b_endingPrices : Nat → Int) (b_prices : Nat → Int) (b_stepCosts : Nat → Int) (r_fixedValues : Nat → Int) (r_heads : Nat → Int) (r_rests : Nat → Int) (r_known : Int) (r_total : Int) (r_length : Int) (r_begins : Nat → Int) (r_ends : Nat → Int) (r_entries : Nat → Int) (r_costs : Nat → Int) (s_length : Int) (s_letters : Nat → Int) (s_breaks : Nat → Int) (s_fixed : Nat → Int) (v_values : Nat → Int) (v_lettersRead : Nat → Int) (v_columns : Int) (p_now : Nat → Int) (p_nowA : Nat) (p_next : Nat → Int) (p_nextA : Nat) (p_low : Int) (p_high : Int) (p_seeds : Nat → Int) (p_seedLows : Nat → Int) (o0 : Nat → Int) : Option (Int × (Nat → Int) × (Nat → Int) × (Nat → Int) × (Nat → Int) × Int × Int × Int × (Nat → Int) × (Nat → Int) × (Nat → Int) × (Nat → Int) × (Nat → Int) × (Nat → Int) × Int × (Nat → Int) × Nat × (Nat → Int) × Nat × Int × Int × (Nat → Int) × (Nat → Int)) :=
  (m_X8_sign x1 b_spellingsOf b_spellingRows b_spellingLengths b_spellingPrices b_words b_wordSounds b_wordSigns b_wordKinds b_wordClasses b_counts b_endings b_endingSounds b_endingSigns b_endingClasses b_endingPrices b_prices b_stepCosts r_fixedValues r_heads r_rests r_known r_total r_length r_begins r_ends r_entries r_costs s_length s_letters s_breaks s_fixed v_values v_lettersRead v_columns p_now p_nowA p_next p_nextA p_low p_high p_seeds p_seedLows).bind fun (cd, r, r_fixedValues_n, r_heads_n, r_rests_n, r_known_n, r_total_n, r_length_n, r_begins_n, r_ends_n, r_entries_n, r_costs_n, v_values_n, v_lettersRead_n, v_columns_n, p_now_n, p_nowA_n, p_next_n, p_nextA_n, p_low_n, p_high_n, p_seeds_n, p_seedLows_n) =>
  if cd = 0 then
    gd (inI r) <|
    vl (uz o0 0 r) fun o1 =>
    some (0, o1, r_fixedValues_n, r_heads_n, r_rests_n, r_known_n, r_total_n, r_length_n, r_begins_n, r_ends_n, r_entries_n, r_costs_n, v_values_n, v_lettersRead_n, v_columns_n, p_now_n, p_nowA_n, p_next_n, p_nextA_n, p_low_n, p_high_n, p_seeds_n, p_seedLows_n)
  else
    some (1, o0, r_fixedValues_n, r_heads_n, r_rests_n, r_known_n, r_total_n, r_length_n, r_begins_n, r_ends_n, r_entries_n, r_costs_n, v_values_n, v_lettersRead_n, v_columns_n, p_now_n, p_nowA_n, p_next_n, p_nextA_n, p_low_n, p_high_n, p_seeds_n, p_seedLows_n)
def m_L_choices (x1 : Int) (b_spellingsOf : Nat → Int) (b_spellingRows : Nat → Int) (b_spellingLengths : Nat → Int) (b_spellingPrices : Nat → Int) (b_words : Int) (b_wordSounds : Nat → Int) (b_wordKinds : Nat → Int) (b_wordClasses : Nat → Int) (b_counts : Nat → Int) (b_endings : Int) (b_endingSounds : Nat → Int) (b_endingClasses : Nat → Int) (b_endingPrices : Nat → Int) (b_prices : Nat → Int) (b_stepCosts : Nat → Int) (o_tails : Nat → Int) (o_leads : Nat → Int) (o_leadsKnown : Int) (o_listedPart : Int) (o_length : Int) (o_entries : Nat → Int) (o_costs : Nat → Int) (r_fixedValues : Nat → Int) (r_heads : Nat → Int) (r_rests : Nat → Int) (r_known : Int) (r_total : Int) (r_length : Int) (r_begins : Nat → Int) (r_ends : Nat → Int) (r_entries : Nat → Int) (r_costs : Nat → Int) (s_length : Int) (s_letters : Nat → Int) (s_breaks : Nat → Int) (s_fixed : Nat → Int) (v_values : Nat → Int) (v_lettersRead : Nat → Int) (v_columns : Int) (p_now : Nat → Int) (p_nowA : Nat) (p_next : Nat → Int) (p_nextA : Nat) (p_low : Int) (p_high : Int) (p_seeds : Nat → Int) (p_seedLows : Nat → Int) (o0 : Nat → Int) : Option (Int × (Nat → Int) × (Nat → Int) × (Nat → Int) × Int × Int × Int × (Nat → Int) × (Nat → Int) × (Nat → Int) × (Nat → Int) × (Nat → Int) × Int × Int × Int × (Nat → Int) × (Nat → Int) × (Nat → Int) × (Nat → Int) × (Nat → Int) × (Nat → Int) × Int × (Nat → Int) × Nat × (Nat → Int) × Nat × Int × Int × (Nat → Int) × (Nat → Int)) :=
  (m_X8_choices x1 b_spellingsOf b_spellingRows b_spellingLengths b_spellingPrices b_words b_wordSounds b_wordKinds b_wordClasses b_counts b_endings b_endingSounds b_endingClasses b_endingPrices b_prices b_stepCosts o_tails o_leads o_leadsKnown o_listedPart o_length o_entries o_costs r_fixedValues r_heads r_rests r_known r_total r_length r_begins r_ends r_entries r_costs s_length s_letters s_breaks s_fixed v_values v_lettersRead v_columns p_now p_nowA p_next p_nextA p_low p_high p_seeds p_seedLows).bind fun (cd, r, o_tails_n, o_leads_n, o_leadsKnown_n, o_listedPart_n, o_length_n, o_entries_n, o_costs_n, r_fixedValues_n, r_heads_n, r_rests_n, r_known_n, r_total_n, r_length_n, r_begins_n, r_ends_n, r_entries_n, r_costs_n, v_values_n, v_lettersRead_n, v_columns_n, p_now_n, p_nowA_n, p_next_n, p_nextA_n, p_low_n, p_high_n, p_seeds_n, p_seedLows_n) =>
  if cd = 0 then
    gd (inI r) <|
    vl (uz o0 0 r) fun o1 =>
    some (0, o1, o_tails_n, o_leads_n, o_leadsKnown_n, o_listedPart_n, o_length_n, o_entries_n, o_costs_n, r_fixedValues_n, r_heads_n, r_rests_n, r_known_n, r_total_n, r_length_n, r_begins_n, r_ends_n, r_entries_n, r_costs_n, v_values_n, v_lettersRead_n, v_columns_n, p_now_n, p_nowA_n, p_next_n, p_nextA_n, p_low_n, p_high_n, p_seeds_n, p_seedLows_n)
  else
    some (1, o0, o_tails_n, o_leads_n, o_leadsKnown_n, o_listedPart_n, o_length_n, o_entries_n, o_costs_n, r_fixedValues_n, r_heads_n, r_rests_n, r_known_n, r_total_n, r_length_n, r_begins_n, r_ends_n, r_entries_n, r_costs_n, v_values_n, v_lettersRead_n, v_columns_n, p_now_n, p_nowA_n, p_next_n, p_nextA_n, p_low_n, p_high_n, p_seeds_n, p_seedLows_n)
def m_L_choice (x1 : Int) (x2 : Int) (x3 : Int) (b_spellingsOf : Nat → Int) (b_spellingRows : Nat → Int) (b_spellingLengths : Nat → Int) (b_spellingPrices : Nat → Int) (b_words : Int) (b_wordSounds : Nat → Int) (b_wordKinds : Nat → Int) (b_wordClasses : Nat → Int) (b_counts : Nat → Int) (b_endings : Int) (b_endingSounds : Nat → Int) (b_endingClasses : Nat → Int) (b_endingPrices : Nat → Int) (b_prices : Nat → Int) (b_stepCosts : Nat → Int) (o_tails : Nat → Int) (o_leads : Nat → Int) (o_leadsKnown : Int) (o_listedPart : Int) (o_length : Int) (o_entries : Nat → Int) (o_costs : Nat → Int) (r_fixedValues : Nat → Int) (r_heads : Nat → Int) (r_rests : Nat → Int) (r_known : Int) (r_total : Int) (r_length : Int) (r_begins : Nat → Int) (r_ends : Nat → Int) (r_entries : Nat → Int) (r_costs : Nat → Int) (s_length : Int) (s_letters : Nat → Int) (s_breaks : Nat → Int) (s_fixed : Nat → Int) (v_values : Nat → Int) (v_lettersRead : Nat → Int) (v_columns : Int) (p_now : Nat → Int) (p_nowA : Nat) (p_next : Nat → Int) (p_nextA : Nat) (p_low : Int) (p_high : Int) (p_seeds : Nat → Int) (p_seedLows : Nat → Int) (o0 : Nat → Int) : Option (Int × (Nat → Int) × (Nat → Int) × (Nat → Int) × Int × Int × Int × (Nat → Int) × (Nat → Int) × (Nat → Int) × (Nat → Int) × (Nat → Int) × Int × Int × Int × (Nat → Int) × (Nat → Int) × (Nat → Int) × (Nat → Int) × (Nat → Int) × (Nat → Int) × Int × (Nat → Int) × Nat × (Nat → Int) × Nat × Int × Int × (Nat → Int) × (Nat → Int)) :=
  (m_X8_choice x1 x2 x3 b_spellingsOf b_spellingRows b_spellingLengths b_spellingPrices b_words b_wordSounds b_wordKinds b_wordClasses b_counts b_endings b_endingSounds b_endingClasses b_endingPrices b_prices b_stepCosts o_tails o_leads o_leadsKnown o_listedPart o_length o_entries o_costs r_fixedValues r_heads r_rests r_known r_total r_length r_begins r_ends r_entries r_costs s_length s_letters s_breaks s_fixed v_values v_lettersRead v_columns p_now p_nowA p_next p_nextA p_low p_high p_seeds p_seedLows).bind fun (cd, r, o_tails_n, o_leads_n, o_leadsKnown_n, o_listedPart_n, o_length_n, o_entries_n, o_costs_n, r_fixedValues_n, r_heads_n, r_rests_n, r_known_n, r_total_n, r_length_n, r_begins_n, r_ends_n, r_entries_n, r_costs_n, v_values_n, v_lettersRead_n, v_columns_n, p_now_n, p_nowA_n, p_next_n, p_nextA_n, p_low_n, p_high_n, p_seeds_n, p_seedLows_n) =>
  if cd = 0 then
    gd (inI r) <|
    vl (uz o0 0 r) fun o1 =>
    some (0, o1, o_tails_n, o_leads_n, o_leadsKnown_n, o_listedPart_n, o_length_n, o_entries_n, o_costs_n, r_fixedValues_n, r_heads_n, r_rests_n, r_known_n, r_total_n, r_length_n, r_begins_n, r_ends_n, r_entries_n, r_costs_n, v_values_n, v_lettersRead_n, v_columns_n, p_now_n, p_nowA_n, p_next_n, p_nextA_n, p_low_n, p_high_n, p_seeds_n, p_seedLows_n)
  else
    some (1, o0, o_tails_n, o_leads_n, o_leadsKnown_n, o_listedPart_n, o_length_n, o_entries_n, o_costs_n, r_fixedValues_n, r_heads_n, r_rests_n, r_known_n, r_total_n, r_length_n, r_begins_n, r_ends_n, r_entries_n, r_costs_n, v_values_n, v_lettersRead_n, v_columns_n, p_now_n, p_nowA_n, p_next_n, p_nextA_n, p_low_n, p_high_n, p_seeds_n, p_seedLows_n)
def m_L_choose (x1 : Int) (x2 : Int) (a_ring : List zSv) (a_next : Int) (a_kept : Int) (b_spellingsOf : Nat → Int) (b_spellingRows : Nat → Int) (b_spellingLengths : Nat → Int) (b_spellingPrices : Nat → Int) (b_words : Int) (b_wordSounds : Nat → Int) (b_wordKinds : Nat → Int) (b_wordClasses : Nat → Int) (b_counts : Nat → Int) (b_endings : Int) (b_endingSounds : Nat → Int) (b_endingClasses : Nat → Int) (b_endingPrices : Nat → Int) (b_prices : Nat → Int) (b_stepCosts : Nat → Int) (o_tails : Nat → Int) (o_leads : Nat → Int) (o_leadsKnown : Int) (o_listedPart : Int) (o_length : Int) (o_entries : Nat → Int) (o_costs : Nat → Int) (r_fixedValues : Nat → Int) (r_heads : Nat → Int) (r_rests : Nat → Int) (r_known : Int) (r_total : Int) (r_length : Int) (r_begins : Nat → Int) (r_ends : Nat → Int) (r_entries : Nat → Int) (r_costs : Nat → Int) (s_length : Int) (s_letters : Nat → Int) (s_breaks : Nat → Int) (s_fixed : Nat → Int) (v_values : Nat → Int) (v_lettersRead : Nat → Int) (v_columns : Int) (p_now : Nat → Int) (p_nowA : Nat) (p_next : Nat → Int) (p_nextA : Nat) (p_low : Int) (p_high : Int) (p_seeds : Nat → Int) (p_seedLows : Nat → Int)  : Option (Int × List zSv × Int × Int × (Nat → Int) × (Nat → Int) × Int × Int × Int × (Nat → Int) × (Nat → Int) × (Nat → Int) × (Nat → Int) × (Nat → Int) × Int × Int × Int × (Nat → Int) × (Nat → Int) × (Nat → Int) × (Nat → Int) × (Nat → Int) × (Nat → Int) × (Nat → Int) × (Nat → Int) × Int × (Nat → Int) × Nat × (Nat → Int) × Nat × Int × Int × (Nat → Int) × (Nat → Int)) :=
  (m_X8_choose x1 x2 a_ring a_next a_kept b_spellingsOf b_spellingRows b_spellingLengths b_spellingPrices b_words b_wordSounds b_wordKinds b_wordClasses b_counts b_endings b_endingSounds b_endingClasses b_endingPrices b_prices b_stepCosts o_tails o_leads o_leadsKnown o_listedPart o_length o_entries o_costs r_fixedValues r_heads r_rests r_known r_total r_length r_begins r_ends r_entries r_costs s_length s_letters s_breaks s_fixed v_values v_lettersRead v_columns p_now p_nowA p_next p_nextA p_low p_high p_seeds p_seedLows).bind fun (cd, a_ring_n, a_next_n, a_kept_n, o_tails_n, o_leads_n, o_leadsKnown_n, o_listedPart_n, o_length_n, o_entries_n, o_costs_n, r_fixedValues_n, r_heads_n, r_rests_n, r_known_n, r_total_n, r_length_n, r_begins_n, r_ends_n, r_entries_n, r_costs_n, s_breaks_n, s_fixed_n, v_values_n, v_lettersRead_n, v_columns_n, p_now_n, p_nowA_n, p_next_n, p_nextA_n, p_low_n, p_high_n, p_seeds_n, p_seedLows_n) =>
  if cd = 0 then
    some (0, a_ring_n, a_next_n, a_kept_n, o_tails_n, o_leads_n, o_leadsKnown_n, o_listedPart_n, o_length_n, o_entries_n, o_costs_n, r_fixedValues_n, r_heads_n, r_rests_n, r_known_n, r_total_n, r_length_n, r_begins_n, r_ends_n, r_entries_n, r_costs_n, s_breaks_n, s_fixed_n, v_values_n, v_lettersRead_n, v_columns_n, p_now_n, p_nowA_n, p_next_n, p_nextA_n, p_low_n, p_high_n, p_seeds_n, p_seedLows_n)
  else
    some (1, a_ring_n, a_next_n, a_kept_n, o_tails_n, o_leads_n, o_leadsKnown_n, o_listedPart_n, o_length_n, o_entries_n, o_costs_n, r_fixedValues_n, r_heads_n, r_rests_n, r_known_n, r_total_n, r_length_n, r_begins_n, r_ends_n, r_entries_n, r_costs_n, s_breaks_n, s_fixed_n, v_values_n, v_lettersRead_n, v_columns_n, p_now_n, p_nowA_n, p_next_n, p_nextA_n, p_low_n, p_high_n, p_seeds_n, p_seedLows_n)
def m_L_setBreak (x1 : Int) (x2 : Int) (a_ring : List zSv) (a_next : Int) (a_kept : Int) (o_leadsKnown : Int) (o_listedPart : Int) (r_known : Int) (s_length : Int) (s_letters : Nat → Int) (s_breaks : Nat → Int) (s_fixed : Nat → Int) (o0 : Nat → Int) : Option (Int × (Nat → Int) × List zSv × Int × Int × Int × Int × Int × (Nat → Int) × (Nat → Int)) :=
  (m_X8_setBreak x1 x2 a_ring a_next a_kept o_leadsKnown o_listedPart r_known s_length s_letters s_breaks s_fixed).bind fun (cd, r, a_ring_n, a_next_n, a_kept_n, o_leadsKnown_n, o_listedPart_n, r_known_n, s_breaks_n, s_fixed_n) =>
  if cd = 0 then
    gd (inI r) <|
    vl (uz o0 0 r) fun o1 =>
    some (0, o1, a_ring_n, a_next_n, a_kept_n, o_leadsKnown_n, o_listedPart_n, r_known_n, s_breaks_n, s_fixed_n)
  else
    some (1, o0, a_ring_n, a_next_n, a_kept_n, o_leadsKnown_n, o_listedPart_n, r_known_n, s_breaks_n, s_fixed_n)
def m_L_count (x1 : Int) (b_words : Int) (b_counts : Nat → Int) (o0 : Nat → Int) : Option (Int × (Nat → Int)) :=
  (m_X8_count x1 b_words b_counts).bind fun (cd, r) =>
  if cd = 0 then
    gd (inI r) <|
    vl (uz o0 0 r) fun o1 =>
    some (0, o1)
  else
    some (1, o0)
def m_L_pairs (x1 : Int) (x2 : Int) (b_pairsOf : Nat → Int) (o0 : Nat → Int) : Option (Int × (Nat → Int)) :=
  (m_X8_pairs x1 x2 b_pairsOf).bind fun (cd, r) =>
  if cd = 0 then
    gd (inI r) <|
    vl (uz o0 0 r) fun o1 =>
    some (0, o1)
  else
    some (1, o0)
def m_L_about (x1 : Int) (a_kept : Int) (b_words : Int) (b_endings : Int) (s_fixed : Nat → Int) (t_kept : Int) (o0 : Nat → Int) : Option (Int × (Nat → Int)) :=
  (m_X8_about x1 a_kept b_words b_endings s_fixed t_kept).bind fun (cd, r) =>
  if cd = 0 then
    gd (inI r) <|
    vl (uz o0 0 r) fun o1 =>
    some (0, o1)
  else
    some (1, o0)
abbrev zZ : Type := (Nat → Int) × (Nat → Nat → Int) × List zSv × Nat × Nat
def zfI : List Int → Nat → Int
  | [], _ => 0
  | x :: _, 0 => x
  | _ :: l, n + 1 => zfI l n
def zfR : List (Nat → Int) → Nat → Nat → Int
  | [], _ => fun _ => 0
  | x :: _, 0 => x
  | _ :: l, n + 1 => zfR l n
def m_L_law_1449 (x4 : Int) (a_ring : List zSv) (a_next : Int) (a_kept : Int) (b_spellingsOf : Nat → Int) (b_spellingRows : Nat → Int) (b_spellingLengths : Nat → Int) (b_spellingPrices : Nat → Int) (b_words : Int) (b_wordSounds : Nat → Int) (b_wordSigns : Nat → Int) (b_wordKinds : Nat → Int) (b_wordClasses : Nat → Int) (b_counts : Nat → Int) (b_endings : Int) (b_endingSounds : Nat → Int) (b_endingSigns : Nat → Int) (b_endingClasses : Nat → Int) (b_endingPrices : Nat → Int) (b_prices : Nat → Int) (b_stepPrices : Nat → Int) (b_pairsOf : Nat → Int) (b_stepCosts : Nat → Int) (o_tails : Nat → Int) (o_leads : Nat → Int) (o_leadsKnown : Int) (o_listedPart : Int) (o_length : Int) (o_entries : Nat → Int) (o_costs : Nat → Int) (r_fixedValues : Nat → Int) (r_heads : Nat → Int) (r_rests : Nat → Int) (r_known : Int) (r_total : Int) (r_length : Int) (r_begins : Nat → Int) (r_ends : Nat → Int) (r_entries : Nat → Int) (r_costs : Nat → Int) (s_length : Int) (s_letters : Nat → Int) (s_breaks : Nat → Int) (s_fixed : Nat → Int) (v_values : Nat → Int) (v_lettersRead : Nat → Int) (v_columns : Int) (p_now : Nat → Int) (p_nowA : Nat) (p_next : Nat → Int) (p_nextA : Nat) (p_low : Int) (p_high : Int) (p_seeds : Nat → Int) (p_seedLows : Nat → Int) (t_entries : Nat → Int) (t_lengths : Nat → Int) (t_kept : Int) (m_code : Int) (m_spellMany : Nat → Int) (m_spellPrice : Nat → Int) (m_spell : Nat → Int) (m_sounds : Nat → Int) (m_signs : Nat → Int) (m_endSounds : Nat → Int) (m_kind : Nat → Int) (m_itsClass : Nat → Int) (m_count : Nat → Int) (m_endSign : Nat → Int) (m_endClass : Nat → Int) (m_endPrice : Nat → Int) (m_words : Int) (m_endings : Int) (m_slip : Int) (m_guess : Int) (m_base : Int) (m_steps : Nat → Int) (m_pairs : Nat → Int) (m_n : Int) (m_fixedMany : Int) (m_line : Nat → Int) (m_breaks : Nat → Int) (m_fixedFrom : Nat → Int) (m_fixedTo : Nat → Int) (m_fixedWord : Nat → Int) (m_fixedEnding : Nat → Int) (m_acts : Int) (m_oldN : Nat → Int) (m_oldFixed : Nat → Int) (m_oldLine : Nat → Int) (m_oldBreaks : Nat → Int) (m_oldFrom : Nat → Int) (m_oldTo : Nat → Int) (m_oldWord : Nat → Int) (m_oldEnding : Nat → Int) (m_kept : Int) (m_keptMany : Nat → Int) (m_keptWord : Nat → Int) (m_keptKind : Nat → Int) (m_isRead : Int) (m_isMade : Int) (m_table : Nat → Int) (m_reach : Nat → Int) (m_next : Nat → Int) (m_rest : Nat → Int) (m_ahead : Nat → Int) (m_parts : Int) (m_total : Int) (m_partFrom : Nat → Int) (m_partTo : Nat → Int) (m_partWord : Nat → Int) (m_partEnding : Nat → Int) (m_found : Int) (m_from0 : Int) (m_kind0 : Int) (m_choiceWord : Nat → Int) (m_choiceEnding : Nat → Int) (m_choiceCost : Nat → Int) (m_choices : Int) (o0 : Nat → Int) (L : Nat) (sc : Nat → Int) : Option (Nat × zZ) :=
  gd (0 ≤ x4 ∧ x4 ≤ 3584) <|
  vl (x4 + 7) fun x4_1449 =>
  some (0, (zfI [x4_1449, a_next, a_kept, b_words, b_endings, o_leadsKnown, o_listedPart, o_length, r_known, r_total, r_length, s_length, v_columns, p_low, p_high, t_kept, m_code, m_words, m_endings, m_slip, m_guess, m_base, m_n, m_fixedMany, m_acts, m_kept, m_isRead, m_isMade, m_parts, m_total, m_found, m_from0, m_kind0, m_choices], zfR (b_spellingsOf :: b_spellingRows :: b_spellingLengths :: b_spellingPrices :: b_wordSounds :: b_wordSigns :: b_wordKinds :: b_wordClasses :: b_counts :: b_endingSounds :: b_endingSigns :: b_endingClasses :: b_endingPrices :: b_prices :: b_stepPrices :: b_pairsOf :: b_stepCosts :: o_tails :: o_leads :: o_entries :: o_costs :: r_fixedValues :: r_heads :: r_rests :: r_begins :: r_ends :: r_entries :: r_costs :: s_letters :: s_breaks :: s_fixed :: v_values :: v_lettersRead :: p_now :: p_next :: p_seeds :: p_seedLows :: t_entries :: t_lengths :: m_spellMany :: m_spellPrice :: m_spell :: m_sounds :: m_signs :: m_endSounds :: m_kind :: m_itsClass :: m_count :: m_endSign :: m_endClass :: m_endPrice :: m_steps :: m_pairs :: m_line :: m_breaks :: m_fixedFrom :: m_fixedTo :: m_fixedWord :: m_fixedEnding :: m_oldN :: m_oldFixed :: m_oldLine :: m_oldBreaks :: m_oldFrom :: m_oldTo :: m_oldWord :: m_oldEnding :: m_keptMany :: m_keptWord :: m_keptKind :: m_table :: m_reach :: m_next :: m_rest :: m_ahead :: m_partFrom :: m_partTo :: m_partWord :: m_partEnding :: m_choiceWord :: m_choiceEnding :: m_choiceCost :: o0 :: []), a_ring, p_nowA, p_nextA))
def m_L_law_148 (x4 : Int) (a_ring : List zSv) (a_next : Int) (a_kept : Int) (b_spellingsOf : Nat → Int) (b_spellingRows : Nat → Int) (b_spellingLengths : Nat → Int) (b_spellingPrices : Nat → Int) (b_words : Int) (b_wordSounds : Nat → Int) (b_wordSigns : Nat → Int) (b_wordKinds : Nat → Int) (b_wordClasses : Nat → Int) (b_counts : Nat → Int) (b_endings : Int) (b_endingSounds : Nat → Int) (b_endingSigns : Nat → Int) (b_endingClasses : Nat → Int) (b_endingPrices : Nat → Int) (b_prices : Nat → Int) (b_stepPrices : Nat → Int) (b_pairsOf : Nat → Int) (b_stepCosts : Nat → Int) (o_tails : Nat → Int) (o_leads : Nat → Int) (o_leadsKnown : Int) (o_listedPart : Int) (o_length : Int) (o_entries : Nat → Int) (o_costs : Nat → Int) (r_fixedValues : Nat → Int) (r_heads : Nat → Int) (r_rests : Nat → Int) (r_known : Int) (r_total : Int) (r_length : Int) (r_begins : Nat → Int) (r_ends : Nat → Int) (r_entries : Nat → Int) (r_costs : Nat → Int) (s_length : Int) (s_letters : Nat → Int) (s_breaks : Nat → Int) (s_fixed : Nat → Int) (v_values : Nat → Int) (v_lettersRead : Nat → Int) (v_columns : Int) (p_now : Nat → Int) (p_nowA : Nat) (p_next : Nat → Int) (p_nextA : Nat) (p_low : Int) (p_high : Int) (p_seeds : Nat → Int) (p_seedLows : Nat → Int) (t_entries : Nat → Int) (t_lengths : Nat → Int) (t_kept : Int) (m_code : Int) (m_spellMany : Nat → Int) (m_spellPrice : Nat → Int) (m_spell : Nat → Int) (m_sounds : Nat → Int) (m_signs : Nat → Int) (m_endSounds : Nat → Int) (m_kind : Nat → Int) (m_itsClass : Nat → Int) (m_count : Nat → Int) (m_endSign : Nat → Int) (m_endClass : Nat → Int) (m_endPrice : Nat → Int) (m_words : Int) (m_endings : Int) (m_slip : Int) (m_guess : Int) (m_base : Int) (m_steps : Nat → Int) (m_pairs : Nat → Int) (m_n : Int) (m_fixedMany : Int) (m_line : Nat → Int) (m_breaks : Nat → Int) (m_fixedFrom : Nat → Int) (m_fixedTo : Nat → Int) (m_fixedWord : Nat → Int) (m_fixedEnding : Nat → Int) (m_acts : Int) (m_oldN : Nat → Int) (m_oldFixed : Nat → Int) (m_oldLine : Nat → Int) (m_oldBreaks : Nat → Int) (m_oldFrom : Nat → Int) (m_oldTo : Nat → Int) (m_oldWord : Nat → Int) (m_oldEnding : Nat → Int) (m_kept : Int) (m_keptMany : Nat → Int) (m_keptWord : Nat → Int) (m_keptKind : Nat → Int) (m_isRead : Int) (m_isMade : Int) (m_table : Nat → Int) (m_reach : Nat → Int) (m_next : Nat → Int) (m_rest : Nat → Int) (m_ahead : Nat → Int) (m_parts : Int) (m_total : Int) (m_partFrom : Nat → Int) (m_partTo : Nat → Int) (m_partWord : Nat → Int) (m_partEnding : Nat → Int) (m_found : Int) (m_from0 : Int) (m_kind0 : Int) (m_choiceWord : Nat → Int) (m_choiceEnding : Nat → Int) (m_choiceCost : Nat → Int) (m_choices : Int) (o0 : Nat → Int) (L : Nat) (sc : Nat → Int) : Option (Nat × zZ) :=
  gd (0 ≤ x4 ∧ x4 ≤ 3584) <|
  gd (0 ≤ (x4 + 1) ∧ (x4 + 1) < (L : Int)) <|
  gd (0 ≤ (x4 + 2) ∧ (x4 + 2) < (L : Int)) <|
  gd (inI (sc (Int.toNat (x4 + 2)))) <|
  gd (0 ≤ (x4 + 3) ∧ (x4 + 3) < (L : Int)) <|
  gd (inI (sc (Int.toNat (x4 + 3)))) <|
  gd (0 ≤ (x4 + 4) ∧ (x4 + 4) < (L : Int)) <|
  (m_L_spelling (sc (Int.toNat (x4 + 1))) (zlor ((sc (Int.toNat (x4 + 2))) * 4294967296) (zland (sc (Int.toNat (x4 + 3))) 4294967295)) (sc (Int.toNat (x4 + 4))) b_spellingsOf b_spellingRows b_spellingLengths b_spellingPrices o_leadsKnown o_listedPart r_known v_columns o0).bind fun (r_184, o0_184, b_spellingsOf_184, b_spellingRows_184, b_spellingLengths_184, b_spellingPrices_184, o_leadsKnown_184, o_listedPart_184, r_known_184, v_columns_184) =>
  gd (0 ≤ (x4 + 1) ∧ (x4 + 1) < (L : Int)) <|
  gd (0 ≤ (x4 + 2) ∧ (x4 + 2) < (L : Int)) <|
  gd (0 ≤ (x4 + 3) ∧ (x4 + 3) < (L : Int)) <|
  gd (0 ≤ (x4 + 4) ∧ (x4 + 4) < (L : Int)) <|
  (m_X9_spelling (sc (Int.toNat (x4 + 1))) (zlor ((sc (Int.toNat (x4 + 2))) * 4294967296) (zland (sc (Int.toNat (x4 + 3))) 4294967295)) (sc (Int.toNat (x4 + 4))) m_code m_spellMany m_spellPrice m_spell m_isRead m_isMade).bind fun (r_224, m_code_224, m_spellMany_224, m_spellPrice_224, m_spell_224, m_isRead_224, m_isMade_224) =>
  (m_X9_thrown m_code_224).bind fun r_230 =>
  gd (inI r_230) <|
  gd (inI r_184) <|
  if r_230 = r_184 then
    if r_184 = 0 then
      gd (inI r_224) <|
      gd (inL (o0_184 (Int.toNat 0))) <|
      gd (inL r_224) <|
      if (o0_184 (Int.toNat 0)) = r_224 then
        m_L_law_1449 x4 a_ring a_next a_kept b_spellingsOf_184 b_spellingRows_184 b_spellingLengths_184 b_spellingPrices_184 b_words b_wordSounds b_wordSigns b_wordKinds b_wordClasses b_counts b_endings b_endingSounds b_endingSigns b_endingClasses b_endingPrices b_prices b_stepPrices b_pairsOf b_stepCosts o_tails o_leads o_leadsKnown_184 o_listedPart_184 o_length o_entries o_costs r_fixedValues r_heads r_rests r_known_184 r_total r_length r_begins r_ends r_entries r_costs s_length s_letters s_breaks s_fixed v_values v_lettersRead v_columns_184 p_now p_nowA p_next p_nextA p_low p_high p_seeds p_seedLows t_entries t_lengths t_kept m_code_224 m_spellMany_224 m_spellPrice_224 m_spell_224 m_sounds m_signs m_endSounds m_kind m_itsClass m_count m_endSign m_endClass m_endPrice m_words m_endings m_slip m_guess m_base m_steps m_pairs m_n m_fixedMany m_line m_breaks m_fixedFrom m_fixedTo m_fixedWord m_fixedEnding m_acts m_oldN m_oldFixed m_oldLine m_oldBreaks m_oldFrom m_oldTo m_oldWord m_oldEnding m_kept m_keptMany m_keptWord m_keptKind m_isRead_224 m_isMade_224 m_table m_reach m_next m_rest m_ahead m_parts m_total m_partFrom m_partTo m_partWord m_partEnding m_found m_from0 m_kind0 m_choiceWord m_choiceEnding m_choiceCost m_choices o0_184 L sc
      else
        none
    else
      m_L_law_1449 x4 a_ring a_next a_kept b_spellingsOf_184 b_spellingRows_184 b_spellingLengths_184 b_spellingPrices_184 b_words b_wordSounds b_wordSigns b_wordKinds b_wordClasses b_counts b_endings b_endingSounds b_endingSigns b_endingClasses b_endingPrices b_prices b_stepPrices b_pairsOf b_stepCosts o_tails o_leads o_leadsKnown_184 o_listedPart_184 o_length o_entries o_costs r_fixedValues r_heads r_rests r_known_184 r_total r_length r_begins r_ends r_entries r_costs s_length s_letters s_breaks s_fixed v_values v_lettersRead v_columns_184 p_now p_nowA p_next p_nextA p_low p_high p_seeds p_seedLows t_entries t_lengths t_kept m_code_224 m_spellMany_224 m_spellPrice_224 m_spell_224 m_sounds m_signs m_endSounds m_kind m_itsClass m_count m_endSign m_endClass m_endPrice m_words m_endings m_slip m_guess m_base m_steps m_pairs m_n m_fixedMany m_line m_breaks m_fixedFrom m_fixedTo m_fixedWord m_fixedEnding m_acts m_oldN m_oldFixed m_oldLine m_oldBreaks m_oldFrom m_oldTo m_oldWord m_oldEnding m_kept m_keptMany m_keptWord m_keptKind m_isRead_224 m_isMade_224 m_table m_reach m_next m_rest m_ahead m_parts m_total m_partFrom m_partTo m_partWord m_partEnding m_found m_from0 m_kind0 m_choiceWord m_choiceEnding m_choiceCost m_choices o0_184 L sc
  else
    none
def m_L_law_260 (x4 : Int) (a_ring : List zSv) (a_next : Int) (a_kept : Int) (b_spellingsOf : Nat → Int) (b_spellingRows : Nat → Int) (b_spellingLengths : Nat → Int) (b_spellingPrices : Nat → Int) (b_words : Int) (b_wordSounds : Nat → Int) (b_wordSigns : Nat → Int) (b_wordKinds : Nat → Int) (b_wordClasses : Nat → Int) (b_counts : Nat → Int) (b_endings : Int) (b_endingSounds : Nat → Int) (b_endingSigns : Nat → Int) (b_endingClasses : Nat → Int) (b_endingPrices : Nat → Int) (b_prices : Nat → Int) (b_stepPrices : Nat → Int) (b_pairsOf : Nat → Int) (b_stepCosts : Nat → Int) (o_tails : Nat → Int) (o_leads : Nat → Int) (o_leadsKnown : Int) (o_listedPart : Int) (o_length : Int) (o_entries : Nat → Int) (o_costs : Nat → Int) (r_fixedValues : Nat → Int) (r_heads : Nat → Int) (r_rests : Nat → Int) (r_known : Int) (r_total : Int) (r_length : Int) (r_begins : Nat → Int) (r_ends : Nat → Int) (r_entries : Nat → Int) (r_costs : Nat → Int) (s_length : Int) (s_letters : Nat → Int) (s_breaks : Nat → Int) (s_fixed : Nat → Int) (v_values : Nat → Int) (v_lettersRead : Nat → Int) (v_columns : Int) (p_now : Nat → Int) (p_nowA : Nat) (p_next : Nat → Int) (p_nextA : Nat) (p_low : Int) (p_high : Int) (p_seeds : Nat → Int) (p_seedLows : Nat → Int) (t_entries : Nat → Int) (t_lengths : Nat → Int) (t_kept : Int) (m_code : Int) (m_spellMany : Nat → Int) (m_spellPrice : Nat → Int) (m_spell : Nat → Int) (m_sounds : Nat → Int) (m_signs : Nat → Int) (m_endSounds : Nat → Int) (m_kind : Nat → Int) (m_itsClass : Nat → Int) (m_count : Nat → Int) (m_endSign : Nat → Int) (m_endClass : Nat → Int) (m_endPrice : Nat → Int) (m_words : Int) (m_endings : Int) (m_slip : Int) (m_guess : Int) (m_base : Int) (m_steps : Nat → Int) (m_pairs : Nat → Int) (m_n : Int) (m_fixedMany : Int) (m_line : Nat → Int) (m_breaks : Nat → Int) (m_fixedFrom : Nat → Int) (m_fixedTo : Nat → Int) (m_fixedWord : Nat → Int) (m_fixedEnding : Nat → Int) (m_acts : Int) (m_oldN : Nat → Int) (m_oldFixed : Nat → Int) (m_oldLine : Nat → Int) (m_oldBreaks : Nat → Int) (m_oldFrom : Nat → Int) (m_oldTo : Nat → Int) (m_oldWord : Nat → Int) (m_oldEnding : Nat → Int) (m_kept : Int) (m_keptMany : Nat → Int) (m_keptWord : Nat → Int) (m_keptKind : Nat → Int) (m_isRead : Int) (m_isMade : Int) (m_table : Nat → Int) (m_reach : Nat → Int) (m_next : Nat → Int) (m_rest : Nat → Int) (m_ahead : Nat → Int) (m_parts : Int) (m_total : Int) (m_partFrom : Nat → Int) (m_partTo : Nat → Int) (m_partWord : Nat → Int) (m_partEnding : Nat → Int) (m_found : Int) (m_from0 : Int) (m_kind0 : Int) (m_choiceWord : Nat → Int) (m_choiceEnding : Nat → Int) (m_choiceCost : Nat → Int) (m_choices : Int) (o0 : Nat → Int) (L : Nat) (sc : Nat → Int) : Option (Nat × zZ) :=
  gd (0 ≤ x4 ∧ x4 ≤ 3584) <|
  gd (0 ≤ (x4 + 1) ∧ (x4 + 1) < (L : Int)) <|
  gd (inI (sc (Int.toNat (x4 + 1)))) <|
  gd (0 ≤ (x4 + 2) ∧ (x4 + 2) < (L : Int)) <|
  gd (inI (sc (Int.toNat (x4 + 2)))) <|
  gd (0 ≤ (x4 + 3) ∧ (x4 + 3) < (L : Int)) <|
  gd (inI (sc (Int.toNat (x4 + 3)))) <|
  gd (0 ≤ (x4 + 4) ∧ (x4 + 4) < (L : Int)) <|
  gd (inI (sc (Int.toNat (x4 + 4)))) <|
  gd (0 ≤ (x4 + 5) ∧ (x4 + 5) < (L : Int)) <|
  gd (0 ≤ (x4 + 6) ∧ (x4 + 6) < (L : Int)) <|
  (m_L_word (zlor ((sc (Int.toNat (x4 + 1))) * 4294967296) (zland (sc (Int.toNat (x4 + 2))) 4294967295)) (zlor ((sc (Int.toNat (x4 + 3))) * 4294967296) (zland (sc (Int.toNat (x4 + 4))) 4294967295)) (sc (Int.toNat (x4 + 5))) (sc (Int.toNat (x4 + 6))) b_words b_wordSounds b_wordSigns b_wordKinds b_wordClasses o_leadsKnown o_listedPart r_known v_columns o0).bind fun (r_319, o0_319, b_words_319, b_wordSounds_319, b_wordSigns_319, b_wordKinds_319, b_wordClasses_319, o_leadsKnown_319, o_listedPart_319, r_known_319, v_columns_319) =>
  gd (0 ≤ (x4 + 1) ∧ (x4 + 1) < (L : Int)) <|
  gd (0 ≤ (x4 + 2) ∧ (x4 + 2) < (L : Int)) <|
  gd (0 ≤ (x4 + 3) ∧ (x4 + 3) < (L : Int)) <|
  gd (0 ≤ (x4 + 4) ∧ (x4 + 4) < (L : Int)) <|
  gd (0 ≤ (x4 + 5) ∧ (x4 + 5) < (L : Int)) <|
  gd (0 ≤ (x4 + 6) ∧ (x4 + 6) < (L : Int)) <|
  (m_X9_word (zlor ((sc (Int.toNat (x4 + 1))) * 4294967296) (zland (sc (Int.toNat (x4 + 2))) 4294967295)) (zlor ((sc (Int.toNat (x4 + 3))) * 4294967296) (zland (sc (Int.toNat (x4 + 4))) 4294967295)) (sc (Int.toNat (x4 + 5))) (sc (Int.toNat (x4 + 6))) m_code m_sounds m_signs m_kind m_itsClass m_words m_isRead m_isMade).bind fun (r_382, m_code_382, m_sounds_382, m_signs_382, m_kind_382, m_itsClass_382, m_words_382, m_isRead_382, m_isMade_382) =>
  (m_X9_thrown m_code_382).bind fun r_388 =>
  gd (inI r_388) <|
  gd (inI r_319) <|
  if r_388 = r_319 then
    if r_319 = 0 then
      gd (inI r_382) <|
      gd (inL (o0_319 (Int.toNat 0))) <|
      gd (inL r_382) <|
      if (o0_319 (Int.toNat 0)) = r_382 then
        m_L_law_1449 x4 a_ring a_next a_kept b_spellingsOf b_spellingRows b_spellingLengths b_spellingPrices b_words_319 b_wordSounds_319 b_wordSigns_319 b_wordKinds_319 b_wordClasses_319 b_counts b_endings b_endingSounds b_endingSigns b_endingClasses b_endingPrices b_prices b_stepPrices b_pairsOf b_stepCosts o_tails o_leads o_leadsKnown_319 o_listedPart_319 o_length o_entries o_costs r_fixedValues r_heads r_rests r_known_319 r_total r_length r_begins r_ends r_entries r_costs s_length s_letters s_breaks s_fixed v_values v_lettersRead v_columns_319 p_now p_nowA p_next p_nextA p_low p_high p_seeds p_seedLows t_entries t_lengths t_kept m_code_382 m_spellMany m_spellPrice m_spell m_sounds_382 m_signs_382 m_endSounds m_kind_382 m_itsClass_382 m_count m_endSign m_endClass m_endPrice m_words_382 m_endings m_slip m_guess m_base m_steps m_pairs m_n m_fixedMany m_line m_breaks m_fixedFrom m_fixedTo m_fixedWord m_fixedEnding m_acts m_oldN m_oldFixed m_oldLine m_oldBreaks m_oldFrom m_oldTo m_oldWord m_oldEnding m_kept m_keptMany m_keptWord m_keptKind m_isRead_382 m_isMade_382 m_table m_reach m_next m_rest m_ahead m_parts m_total m_partFrom m_partTo m_partWord m_partEnding m_found m_from0 m_kind0 m_choiceWord m_choiceEnding m_choiceCost m_choices o0_319 L sc
      else
        none
    else
      m_L_law_1449 x4 a_ring a_next a_kept b_spellingsOf b_spellingRows b_spellingLengths b_spellingPrices b_words_319 b_wordSounds_319 b_wordSigns_319 b_wordKinds_319 b_wordClasses_319 b_counts b_endings b_endingSounds b_endingSigns b_endingClasses b_endingPrices b_prices b_stepPrices b_pairsOf b_stepCosts o_tails o_leads o_leadsKnown_319 o_listedPart_319 o_length o_entries o_costs r_fixedValues r_heads r_rests r_known_319 r_total r_length r_begins r_ends r_entries r_costs s_length s_letters s_breaks s_fixed v_values v_lettersRead v_columns_319 p_now p_nowA p_next p_nextA p_low p_high p_seeds p_seedLows t_entries t_lengths t_kept m_code_382 m_spellMany m_spellPrice m_spell m_sounds_382 m_signs_382 m_endSounds m_kind_382 m_itsClass_382 m_count m_endSign m_endClass m_endPrice m_words_382 m_endings m_slip m_guess m_base m_steps m_pairs m_n m_fixedMany m_line m_breaks m_fixedFrom m_fixedTo m_fixedWord m_fixedEnding m_acts m_oldN m_oldFixed m_oldLine m_oldBreaks m_oldFrom m_oldTo m_oldWord m_oldEnding m_kept m_keptMany m_keptWord m_keptKind m_isRead_382 m_isMade_382 m_table m_reach m_next m_rest m_ahead m_parts m_total m_partFrom m_partTo m_partWord m_partEnding m_found m_from0 m_kind0 m_choiceWord m_choiceEnding m_choiceCost m_choices o0_319 L sc
  else
    none
def m_L_law_418 (x4 : Int) (a_ring : List zSv) (a_next : Int) (a_kept : Int) (b_spellingsOf : Nat → Int) (b_spellingRows : Nat → Int) (b_spellingLengths : Nat → Int) (b_spellingPrices : Nat → Int) (b_words : Int) (b_wordSounds : Nat → Int) (b_wordSigns : Nat → Int) (b_wordKinds : Nat → Int) (b_wordClasses : Nat → Int) (b_counts : Nat → Int) (b_endings : Int) (b_endingSounds : Nat → Int) (b_endingSigns : Nat → Int) (b_endingClasses : Nat → Int) (b_endingPrices : Nat → Int) (b_prices : Nat → Int) (b_stepPrices : Nat → Int) (b_pairsOf : Nat → Int) (b_stepCosts : Nat → Int) (o_tails : Nat → Int) (o_leads : Nat → Int) (o_leadsKnown : Int) (o_listedPart : Int) (o_length : Int) (o_entries : Nat → Int) (o_costs : Nat → Int) (r_fixedValues : Nat → Int) (r_heads : Nat → Int) (r_rests : Nat → Int) (r_known : Int) (r_total : Int) (r_length : Int) (r_begins : Nat → Int) (r_ends : Nat → Int) (r_entries : Nat → Int) (r_costs : Nat → Int) (s_length : Int) (s_letters : Nat → Int) (s_breaks : Nat → Int) (s_fixed : Nat → Int) (v_values : Nat → Int) (v_lettersRead : Nat → Int) (v_columns : Int) (p_now : Nat → Int) (p_nowA : Nat) (p_next : Nat → Int) (p_nextA : Nat) (p_low : Int) (p_high : Int) (p_seeds : Nat → Int) (p_seedLows : Nat → Int) (t_entries : Nat → Int) (t_lengths : Nat → Int) (t_kept : Int) (m_code : Int) (m_spellMany : Nat → Int) (m_spellPrice : Nat → Int) (m_spell : Nat → Int) (m_sounds : Nat → Int) (m_signs : Nat → Int) (m_endSounds : Nat → Int) (m_kind : Nat → Int) (m_itsClass : Nat → Int) (m_count : Nat → Int) (m_endSign : Nat → Int) (m_endClass : Nat → Int) (m_endPrice : Nat → Int) (m_words : Int) (m_endings : Int) (m_slip : Int) (m_guess : Int) (m_base : Int) (m_steps : Nat → Int) (m_pairs : Nat → Int) (m_n : Int) (m_fixedMany : Int) (m_line : Nat → Int) (m_breaks : Nat → Int) (m_fixedFrom : Nat → Int) (m_fixedTo : Nat → Int) (m_fixedWord : Nat → Int) (m_fixedEnding : Nat → Int) (m_acts : Int) (m_oldN : Nat → Int) (m_oldFixed : Nat → Int) (m_oldLine : Nat → Int) (m_oldBreaks : Nat → Int) (m_oldFrom : Nat → Int) (m_oldTo : Nat → Int) (m_oldWord : Nat → Int) (m_oldEnding : Nat → Int) (m_kept : Int) (m_keptMany : Nat → Int) (m_keptWord : Nat → Int) (m_keptKind : Nat → Int) (m_isRead : Int) (m_isMade : Int) (m_table : Nat → Int) (m_reach : Nat → Int) (m_next : Nat → Int) (m_rest : Nat → Int) (m_ahead : Nat → Int) (m_parts : Int) (m_total : Int) (m_partFrom : Nat → Int) (m_partTo : Nat → Int) (m_partWord : Nat → Int) (m_partEnding : Nat → Int) (m_found : Int) (m_from0 : Int) (m_kind0 : Int) (m_choiceWord : Nat → Int) (m_choiceEnding : Nat → Int) (m_choiceCost : Nat → Int) (m_choices : Int) (o0 : Nat → Int) (L : Nat) (sc : Nat → Int) : Option (Nat × zZ) :=
  gd (0 ≤ x4 ∧ x4 ≤ 3584) <|
  gd (0 ≤ (x4 + 1) ∧ (x4 + 1) < (L : Int)) <|
  gd (inI (sc (Int.toNat (x4 + 1)))) <|
  gd (0 ≤ (x4 + 2) ∧ (x4 + 2) < (L : Int)) <|
  gd (inI (sc (Int.toNat (x4 + 2)))) <|
  gd (0 ≤ (x4 + 3) ∧ (x4 + 3) < (L : Int)) <|
  gd (0 ≤ (x4 + 4) ∧ (x4 + 4) < (L : Int)) <|
  gd (0 ≤ (x4 + 5) ∧ (x4 + 5) < (L : Int)) <|
  (m_L_ending (zlor ((sc (Int.toNat (x4 + 1))) * 4294967296) (zland (sc (Int.toNat (x4 + 2))) 4294967295)) (sc (Int.toNat (x4 + 3))) (sc (Int.toNat (x4 + 4))) (sc (Int.toNat (x4 + 5))) b_endings b_endingSounds b_endingSigns b_endingClasses b_endingPrices o_leadsKnown o_listedPart r_known v_columns o0).bind fun (r_460, o0_460, b_endings_460, b_endingSounds_460, b_endingSigns_460, b_endingClasses_460, b_endingPrices_460, o_leadsKnown_460, o_listedPart_460, r_known_460, v_columns_460) =>
  gd (0 ≤ (x4 + 1) ∧ (x4 + 1) < (L : Int)) <|
  gd (0 ≤ (x4 + 2) ∧ (x4 + 2) < (L : Int)) <|
  gd (0 ≤ (x4 + 3) ∧ (x4 + 3) < (L : Int)) <|
  gd (0 ≤ (x4 + 4) ∧ (x4 + 4) < (L : Int)) <|
  gd (0 ≤ (x4 + 5) ∧ (x4 + 5) < (L : Int)) <|
  (m_X9_ending (zlor ((sc (Int.toNat (x4 + 1))) * 4294967296) (zland (sc (Int.toNat (x4 + 2))) 4294967295)) (sc (Int.toNat (x4 + 3))) (sc (Int.toNat (x4 + 4))) (sc (Int.toNat (x4 + 5))) m_code m_endSounds m_endSign m_endClass m_endPrice m_endings m_isRead m_isMade).bind fun (r_506, m_code_506, m_endSounds_506, m_endSign_506, m_endClass_506, m_endPrice_506, m_endings_506, m_isRead_506, m_isMade_506) =>
  (m_X9_thrown m_code_506).bind fun r_512 =>
  gd (inI r_512) <|
  gd (inI r_460) <|
  if r_512 = r_460 then
    if r_460 = 0 then
      gd (inI r_506) <|
      gd (inL (o0_460 (Int.toNat 0))) <|
      gd (inL r_506) <|
      if (o0_460 (Int.toNat 0)) = r_506 then
        m_L_law_1449 x4 a_ring a_next a_kept b_spellingsOf b_spellingRows b_spellingLengths b_spellingPrices b_words b_wordSounds b_wordSigns b_wordKinds b_wordClasses b_counts b_endings_460 b_endingSounds_460 b_endingSigns_460 b_endingClasses_460 b_endingPrices_460 b_prices b_stepPrices b_pairsOf b_stepCosts o_tails o_leads o_leadsKnown_460 o_listedPart_460 o_length o_entries o_costs r_fixedValues r_heads r_rests r_known_460 r_total r_length r_begins r_ends r_entries r_costs s_length s_letters s_breaks s_fixed v_values v_lettersRead v_columns_460 p_now p_nowA p_next p_nextA p_low p_high p_seeds p_seedLows t_entries t_lengths t_kept m_code_506 m_spellMany m_spellPrice m_spell m_sounds m_signs m_endSounds_506 m_kind m_itsClass m_count m_endSign_506 m_endClass_506 m_endPrice_506 m_words m_endings_506 m_slip m_guess m_base m_steps m_pairs m_n m_fixedMany m_line m_breaks m_fixedFrom m_fixedTo m_fixedWord m_fixedEnding m_acts m_oldN m_oldFixed m_oldLine m_oldBreaks m_oldFrom m_oldTo m_oldWord m_oldEnding m_kept m_keptMany m_keptWord m_keptKind m_isRead_506 m_isMade_506 m_table m_reach m_next m_rest m_ahead m_parts m_total m_partFrom m_partTo m_partWord m_partEnding m_found m_from0 m_kind0 m_choiceWord m_choiceEnding m_choiceCost m_choices o0_460 L sc
      else
        none
    else
      m_L_law_1449 x4 a_ring a_next a_kept b_spellingsOf b_spellingRows b_spellingLengths b_spellingPrices b_words b_wordSounds b_wordSigns b_wordKinds b_wordClasses b_counts b_endings_460 b_endingSounds_460 b_endingSigns_460 b_endingClasses_460 b_endingPrices_460 b_prices b_stepPrices b_pairsOf b_stepCosts o_tails o_leads o_leadsKnown_460 o_listedPart_460 o_length o_entries o_costs r_fixedValues r_heads r_rests r_known_460 r_total r_length r_begins r_ends r_entries r_costs s_length s_letters s_breaks s_fixed v_values v_lettersRead v_columns_460 p_now p_nowA p_next p_nextA p_low p_high p_seeds p_seedLows t_entries t_lengths t_kept m_code_506 m_spellMany m_spellPrice m_spell m_sounds m_signs m_endSounds_506 m_kind m_itsClass m_count m_endSign_506 m_endClass_506 m_endPrice_506 m_words m_endings_506 m_slip m_guess m_base m_steps m_pairs m_n m_fixedMany m_line m_breaks m_fixedFrom m_fixedTo m_fixedWord m_fixedEnding m_acts m_oldN m_oldFixed m_oldLine m_oldBreaks m_oldFrom m_oldTo m_oldWord m_oldEnding m_kept m_keptMany m_keptWord m_keptKind m_isRead_506 m_isMade_506 m_table m_reach m_next m_rest m_ahead m_parts m_total m_partFrom m_partTo m_partWord m_partEnding m_found m_from0 m_kind0 m_choiceWord m_choiceEnding m_choiceCost m_choices o0_460 L sc
  else
    none
def m_L_law_542 (x4 : Int) (a_ring : List zSv) (a_next : Int) (a_kept : Int) (b_spellingsOf : Nat → Int) (b_spellingRows : Nat → Int) (b_spellingLengths : Nat → Int) (b_spellingPrices : Nat → Int) (b_words : Int) (b_wordSounds : Nat → Int) (b_wordSigns : Nat → Int) (b_wordKinds : Nat → Int) (b_wordClasses : Nat → Int) (b_counts : Nat → Int) (b_endings : Int) (b_endingSounds : Nat → Int) (b_endingSigns : Nat → Int) (b_endingClasses : Nat → Int) (b_endingPrices : Nat → Int) (b_prices : Nat → Int) (b_stepPrices : Nat → Int) (b_pairsOf : Nat → Int) (b_stepCosts : Nat → Int) (o_tails : Nat → Int) (o_leads : Nat → Int) (o_leadsKnown : Int) (o_listedPart : Int) (o_length : Int) (o_entries : Nat → Int) (o_costs : Nat → Int) (r_fixedValues : Nat → Int) (r_heads : Nat → Int) (r_rests : Nat → Int) (r_known : Int) (r_total : Int) (r_length : Int) (r_begins : Nat → Int) (r_ends : Nat → Int) (r_entries : Nat → Int) (r_costs : Nat → Int) (s_length : Int) (s_letters : Nat → Int) (s_breaks : Nat → Int) (s_fixed : Nat → Int) (v_values : Nat → Int) (v_lettersRead : Nat → Int) (v_columns : Int) (p_now : Nat → Int) (p_nowA : Nat) (p_next : Nat → Int) (p_nextA : Nat) (p_low : Int) (p_high : Int) (p_seeds : Nat → Int) (p_seedLows : Nat → Int) (t_entries : Nat → Int) (t_lengths : Nat → Int) (t_kept : Int) (m_code : Int) (m_spellMany : Nat → Int) (m_spellPrice : Nat → Int) (m_spell : Nat → Int) (m_sounds : Nat → Int) (m_signs : Nat → Int) (m_endSounds : Nat → Int) (m_kind : Nat → Int) (m_itsClass : Nat → Int) (m_count : Nat → Int) (m_endSign : Nat → Int) (m_endClass : Nat → Int) (m_endPrice : Nat → Int) (m_words : Int) (m_endings : Int) (m_slip : Int) (m_guess : Int) (m_base : Int) (m_steps : Nat → Int) (m_pairs : Nat → Int) (m_n : Int) (m_fixedMany : Int) (m_line : Nat → Int) (m_breaks : Nat → Int) (m_fixedFrom : Nat → Int) (m_fixedTo : Nat → Int) (m_fixedWord : Nat → Int) (m_fixedEnding : Nat → Int) (m_acts : Int) (m_oldN : Nat → Int) (m_oldFixed : Nat → Int) (m_oldLine : Nat → Int) (m_oldBreaks : Nat → Int) (m_oldFrom : Nat → Int) (m_oldTo : Nat → Int) (m_oldWord : Nat → Int) (m_oldEnding : Nat → Int) (m_kept : Int) (m_keptMany : Nat → Int) (m_keptWord : Nat → Int) (m_keptKind : Nat → Int) (m_isRead : Int) (m_isMade : Int) (m_table : Nat → Int) (m_reach : Nat → Int) (m_next : Nat → Int) (m_rest : Nat → Int) (m_ahead : Nat → Int) (m_parts : Int) (m_total : Int) (m_partFrom : Nat → Int) (m_partTo : Nat → Int) (m_partWord : Nat → Int) (m_partEnding : Nat → Int) (m_found : Int) (m_from0 : Int) (m_kind0 : Int) (m_choiceWord : Nat → Int) (m_choiceEnding : Nat → Int) (m_choiceCost : Nat → Int) (m_choices : Int) (o0 : Nat → Int) (L : Nat) (sc : Nat → Int) : Option (Nat × zZ) :=
  gd (0 ≤ x4 ∧ x4 ≤ 3584) <|
  gd (0 ≤ (x4 + 1) ∧ (x4 + 1) < (L : Int)) <|
  gd (0 ≤ (x4 + 2) ∧ (x4 + 2) < (L : Int)) <|
  (m_L_price (sc (Int.toNat (x4 + 1))) (sc (Int.toNat (x4 + 2))) b_prices o_leadsKnown o_listedPart r_known v_columns o0).bind fun (r_556, o0_556, b_prices_556, o_leadsKnown_556, o_listedPart_556, r_known_556, v_columns_556) =>
  gd (0 ≤ (x4 + 1) ∧ (x4 + 1) < (L : Int)) <|
  gd (0 ≤ (x4 + 2) ∧ (x4 + 2) < (L : Int)) <|
  (m_X9_price (sc (Int.toNat (x4 + 1))) (sc (Int.toNat (x4 + 2))) m_code m_slip m_guess m_base m_isRead m_isMade).bind fun (r_574, m_code_574, m_slip_574, m_guess_574, m_base_574, m_isRead_574, m_isMade_574) =>
  (m_X9_thrown m_code_574).bind fun r_580 =>
  gd (inI r_580) <|
  gd (inI r_556) <|
  if r_580 = r_556 then
    if r_556 = 0 then
      gd (inI r_574) <|
      gd (inL (o0_556 (Int.toNat 0))) <|
      gd (inL r_574) <|
      if (o0_556 (Int.toNat 0)) = r_574 then
        m_L_law_1449 x4 a_ring a_next a_kept b_spellingsOf b_spellingRows b_spellingLengths b_spellingPrices b_words b_wordSounds b_wordSigns b_wordKinds b_wordClasses b_counts b_endings b_endingSounds b_endingSigns b_endingClasses b_endingPrices b_prices_556 b_stepPrices b_pairsOf b_stepCosts o_tails o_leads o_leadsKnown_556 o_listedPart_556 o_length o_entries o_costs r_fixedValues r_heads r_rests r_known_556 r_total r_length r_begins r_ends r_entries r_costs s_length s_letters s_breaks s_fixed v_values v_lettersRead v_columns_556 p_now p_nowA p_next p_nextA p_low p_high p_seeds p_seedLows t_entries t_lengths t_kept m_code_574 m_spellMany m_spellPrice m_spell m_sounds m_signs m_endSounds m_kind m_itsClass m_count m_endSign m_endClass m_endPrice m_words m_endings m_slip_574 m_guess_574 m_base_574 m_steps m_pairs m_n m_fixedMany m_line m_breaks m_fixedFrom m_fixedTo m_fixedWord m_fixedEnding m_acts m_oldN m_oldFixed m_oldLine m_oldBreaks m_oldFrom m_oldTo m_oldWord m_oldEnding m_kept m_keptMany m_keptWord m_keptKind m_isRead_574 m_isMade_574 m_table m_reach m_next m_rest m_ahead m_parts m_total m_partFrom m_partTo m_partWord m_partEnding m_found m_from0 m_kind0 m_choiceWord m_choiceEnding m_choiceCost m_choices o0_556 L sc
      else
        none
    else
      m_L_law_1449 x4 a_ring a_next a_kept b_spellingsOf b_spellingRows b_spellingLengths b_spellingPrices b_words b_wordSounds b_wordSigns b_wordKinds b_wordClasses b_counts b_endings b_endingSounds b_endingSigns b_endingClasses b_endingPrices b_prices_556 b_stepPrices b_pairsOf b_stepCosts o_tails o_leads o_leadsKnown_556 o_listedPart_556 o_length o_entries o_costs r_fixedValues r_heads r_rests r_known_556 r_total r_length r_begins r_ends r_entries r_costs s_length s_letters s_breaks s_fixed v_values v_lettersRead v_columns_556 p_now p_nowA p_next p_nextA p_low p_high p_seeds p_seedLows t_entries t_lengths t_kept m_code_574 m_spellMany m_spellPrice m_spell m_sounds m_signs m_endSounds m_kind m_itsClass m_count m_endSign m_endClass m_endPrice m_words m_endings m_slip_574 m_guess_574 m_base_574 m_steps m_pairs m_n m_fixedMany m_line m_breaks m_fixedFrom m_fixedTo m_fixedWord m_fixedEnding m_acts m_oldN m_oldFixed m_oldLine m_oldBreaks m_oldFrom m_oldTo m_oldWord m_oldEnding m_kept m_keptMany m_keptWord m_keptKind m_isRead_574 m_isMade_574 m_table m_reach m_next m_rest m_ahead m_parts m_total m_partFrom m_partTo m_partWord m_partEnding m_found m_from0 m_kind0 m_choiceWord m_choiceEnding m_choiceCost m_choices o0_556 L sc
  else
    none
def m_L_law_610 (x4 : Int) (a_ring : List zSv) (a_next : Int) (a_kept : Int) (b_spellingsOf : Nat → Int) (b_spellingRows : Nat → Int) (b_spellingLengths : Nat → Int) (b_spellingPrices : Nat → Int) (b_words : Int) (b_wordSounds : Nat → Int) (b_wordSigns : Nat → Int) (b_wordKinds : Nat → Int) (b_wordClasses : Nat → Int) (b_counts : Nat → Int) (b_endings : Int) (b_endingSounds : Nat → Int) (b_endingSigns : Nat → Int) (b_endingClasses : Nat → Int) (b_endingPrices : Nat → Int) (b_prices : Nat → Int) (b_stepPrices : Nat → Int) (b_pairsOf : Nat → Int) (b_stepCosts : Nat → Int) (o_tails : Nat → Int) (o_leads : Nat → Int) (o_leadsKnown : Int) (o_listedPart : Int) (o_length : Int) (o_entries : Nat → Int) (o_costs : Nat → Int) (r_fixedValues : Nat → Int) (r_heads : Nat → Int) (r_rests : Nat → Int) (r_known : Int) (r_total : Int) (r_length : Int) (r_begins : Nat → Int) (r_ends : Nat → Int) (r_entries : Nat → Int) (r_costs : Nat → Int) (s_length : Int) (s_letters : Nat → Int) (s_breaks : Nat → Int) (s_fixed : Nat → Int) (v_values : Nat → Int) (v_lettersRead : Nat → Int) (v_columns : Int) (p_now : Nat → Int) (p_nowA : Nat) (p_next : Nat → Int) (p_nextA : Nat) (p_low : Int) (p_high : Int) (p_seeds : Nat → Int) (p_seedLows : Nat → Int) (t_entries : Nat → Int) (t_lengths : Nat → Int) (t_kept : Int) (m_code : Int) (m_spellMany : Nat → Int) (m_spellPrice : Nat → Int) (m_spell : Nat → Int) (m_sounds : Nat → Int) (m_signs : Nat → Int) (m_endSounds : Nat → Int) (m_kind : Nat → Int) (m_itsClass : Nat → Int) (m_count : Nat → Int) (m_endSign : Nat → Int) (m_endClass : Nat → Int) (m_endPrice : Nat → Int) (m_words : Int) (m_endings : Int) (m_slip : Int) (m_guess : Int) (m_base : Int) (m_steps : Nat → Int) (m_pairs : Nat → Int) (m_n : Int) (m_fixedMany : Int) (m_line : Nat → Int) (m_breaks : Nat → Int) (m_fixedFrom : Nat → Int) (m_fixedTo : Nat → Int) (m_fixedWord : Nat → Int) (m_fixedEnding : Nat → Int) (m_acts : Int) (m_oldN : Nat → Int) (m_oldFixed : Nat → Int) (m_oldLine : Nat → Int) (m_oldBreaks : Nat → Int) (m_oldFrom : Nat → Int) (m_oldTo : Nat → Int) (m_oldWord : Nat → Int) (m_oldEnding : Nat → Int) (m_kept : Int) (m_keptMany : Nat → Int) (m_keptWord : Nat → Int) (m_keptKind : Nat → Int) (m_isRead : Int) (m_isMade : Int) (m_table : Nat → Int) (m_reach : Nat → Int) (m_next : Nat → Int) (m_rest : Nat → Int) (m_ahead : Nat → Int) (m_parts : Int) (m_total : Int) (m_partFrom : Nat → Int) (m_partTo : Nat → Int) (m_partWord : Nat → Int) (m_partEnding : Nat → Int) (m_found : Int) (m_from0 : Int) (m_kind0 : Int) (m_choiceWord : Nat → Int) (m_choiceEnding : Nat → Int) (m_choiceCost : Nat → Int) (m_choices : Int) (o0 : Nat → Int) (L : Nat) (sc : Nat → Int) : Option (Nat × zZ) :=
  gd (0 ≤ x4 ∧ x4 ≤ 3584) <|
  gd (0 ≤ (x4 + 1) ∧ (x4 + 1) < (L : Int)) <|
  gd (0 ≤ (x4 + 2) ∧ (x4 + 2) < (L : Int)) <|
  gd (0 ≤ (x4 + 3) ∧ (x4 + 3) < (L : Int)) <|
  (m_L_step (sc (Int.toNat (x4 + 1))) (sc (Int.toNat (x4 + 2))) (sc (Int.toNat (x4 + 3))) b_stepPrices b_pairsOf b_stepCosts o_leadsKnown o_listedPart r_known o0).bind fun (r_630, o0_630, b_stepPrices_630, b_stepCosts_630, o_leadsKnown_630, o_listedPart_630, r_known_630) =>
  gd (0 ≤ (x4 + 1) ∧ (x4 + 1) < (L : Int)) <|
  gd (0 ≤ (x4 + 2) ∧ (x4 + 2) < (L : Int)) <|
  gd (0 ≤ (x4 + 3) ∧ (x4 + 3) < (L : Int)) <|
  (m_X9_step (sc (Int.toNat (x4 + 1))) (sc (Int.toNat (x4 + 2))) (sc (Int.toNat (x4 + 3))) m_code m_steps m_isRead).bind fun (r_654, m_code_654, m_steps_654, m_isRead_654) =>
  (m_X9_thrown m_code_654).bind fun r_660 =>
  gd (inI r_660) <|
  gd (inI r_630) <|
  if r_660 = r_630 then
    if r_630 = 0 then
      gd (inI r_654) <|
      gd (inL (o0_630 (Int.toNat 0))) <|
      gd (inL r_654) <|
      if (o0_630 (Int.toNat 0)) = r_654 then
        m_L_law_1449 x4 a_ring a_next a_kept b_spellingsOf b_spellingRows b_spellingLengths b_spellingPrices b_words b_wordSounds b_wordSigns b_wordKinds b_wordClasses b_counts b_endings b_endingSounds b_endingSigns b_endingClasses b_endingPrices b_prices b_stepPrices_630 b_pairsOf b_stepCosts_630 o_tails o_leads o_leadsKnown_630 o_listedPart_630 o_length o_entries o_costs r_fixedValues r_heads r_rests r_known_630 r_total r_length r_begins r_ends r_entries r_costs s_length s_letters s_breaks s_fixed v_values v_lettersRead v_columns p_now p_nowA p_next p_nextA p_low p_high p_seeds p_seedLows t_entries t_lengths t_kept m_code_654 m_spellMany m_spellPrice m_spell m_sounds m_signs m_endSounds m_kind m_itsClass m_count m_endSign m_endClass m_endPrice m_words m_endings m_slip m_guess m_base m_steps_654 m_pairs m_n m_fixedMany m_line m_breaks m_fixedFrom m_fixedTo m_fixedWord m_fixedEnding m_acts m_oldN m_oldFixed m_oldLine m_oldBreaks m_oldFrom m_oldTo m_oldWord m_oldEnding m_kept m_keptMany m_keptWord m_keptKind m_isRead_654 m_isMade m_table m_reach m_next m_rest m_ahead m_parts m_total m_partFrom m_partTo m_partWord m_partEnding m_found m_from0 m_kind0 m_choiceWord m_choiceEnding m_choiceCost m_choices o0_630 L sc
      else
        none
    else
      m_L_law_1449 x4 a_ring a_next a_kept b_spellingsOf b_spellingRows b_spellingLengths b_spellingPrices b_words b_wordSounds b_wordSigns b_wordKinds b_wordClasses b_counts b_endings b_endingSounds b_endingSigns b_endingClasses b_endingPrices b_prices b_stepPrices_630 b_pairsOf b_stepCosts_630 o_tails o_leads o_leadsKnown_630 o_listedPart_630 o_length o_entries o_costs r_fixedValues r_heads r_rests r_known_630 r_total r_length r_begins r_ends r_entries r_costs s_length s_letters s_breaks s_fixed v_values v_lettersRead v_columns p_now p_nowA p_next p_nextA p_low p_high p_seeds p_seedLows t_entries t_lengths t_kept m_code_654 m_spellMany m_spellPrice m_spell m_sounds m_signs m_endSounds m_kind m_itsClass m_count m_endSign m_endClass m_endPrice m_words m_endings m_slip m_guess m_base m_steps_654 m_pairs m_n m_fixedMany m_line m_breaks m_fixedFrom m_fixedTo m_fixedWord m_fixedEnding m_acts m_oldN m_oldFixed m_oldLine m_oldBreaks m_oldFrom m_oldTo m_oldWord m_oldEnding m_kept m_keptMany m_keptWord m_keptKind m_isRead_654 m_isMade m_table m_reach m_next m_rest m_ahead m_parts m_total m_partFrom m_partTo m_partWord m_partEnding m_found m_from0 m_kind0 m_choiceWord m_choiceEnding m_choiceCost m_choices o0_630 L sc
  else
    none
def m_L_law_690 (x4 : Int) (a_ring : List zSv) (a_next : Int) (a_kept : Int) (b_spellingsOf : Nat → Int) (b_spellingRows : Nat → Int) (b_spellingLengths : Nat → Int) (b_spellingPrices : Nat → Int) (b_words : Int) (b_wordSounds : Nat → Int) (b_wordSigns : Nat → Int) (b_wordKinds : Nat → Int) (b_wordClasses : Nat → Int) (b_counts : Nat → Int) (b_endings : Int) (b_endingSounds : Nat → Int) (b_endingSigns : Nat → Int) (b_endingClasses : Nat → Int) (b_endingPrices : Nat → Int) (b_prices : Nat → Int) (b_stepPrices : Nat → Int) (b_pairsOf : Nat → Int) (b_stepCosts : Nat → Int) (o_tails : Nat → Int) (o_leads : Nat → Int) (o_leadsKnown : Int) (o_listedPart : Int) (o_length : Int) (o_entries : Nat → Int) (o_costs : Nat → Int) (r_fixedValues : Nat → Int) (r_heads : Nat → Int) (r_rests : Nat → Int) (r_known : Int) (r_total : Int) (r_length : Int) (r_begins : Nat → Int) (r_ends : Nat → Int) (r_entries : Nat → Int) (r_costs : Nat → Int) (s_length : Int) (s_letters : Nat → Int) (s_breaks : Nat → Int) (s_fixed : Nat → Int) (v_values : Nat → Int) (v_lettersRead : Nat → Int) (v_columns : Int) (p_now : Nat → Int) (p_nowA : Nat) (p_next : Nat → Int) (p_nextA : Nat) (p_low : Int) (p_high : Int) (p_seeds : Nat → Int) (p_seedLows : Nat → Int) (t_entries : Nat → Int) (t_lengths : Nat → Int) (t_kept : Int) (m_code : Int) (m_spellMany : Nat → Int) (m_spellPrice : Nat → Int) (m_spell : Nat → Int) (m_sounds : Nat → Int) (m_signs : Nat → Int) (m_endSounds : Nat → Int) (m_kind : Nat → Int) (m_itsClass : Nat → Int) (m_count : Nat → Int) (m_endSign : Nat → Int) (m_endClass : Nat → Int) (m_endPrice : Nat → Int) (m_words : Int) (m_endings : Int) (m_slip : Int) (m_guess : Int) (m_base : Int) (m_steps : Nat → Int) (m_pairs : Nat → Int) (m_n : Int) (m_fixedMany : Int) (m_line : Nat → Int) (m_breaks : Nat → Int) (m_fixedFrom : Nat → Int) (m_fixedTo : Nat → Int) (m_fixedWord : Nat → Int) (m_fixedEnding : Nat → Int) (m_acts : Int) (m_oldN : Nat → Int) (m_oldFixed : Nat → Int) (m_oldLine : Nat → Int) (m_oldBreaks : Nat → Int) (m_oldFrom : Nat → Int) (m_oldTo : Nat → Int) (m_oldWord : Nat → Int) (m_oldEnding : Nat → Int) (m_kept : Int) (m_keptMany : Nat → Int) (m_keptWord : Nat → Int) (m_keptKind : Nat → Int) (m_isRead : Int) (m_isMade : Int) (m_table : Nat → Int) (m_reach : Nat → Int) (m_next : Nat → Int) (m_rest : Nat → Int) (m_ahead : Nat → Int) (m_parts : Int) (m_total : Int) (m_partFrom : Nat → Int) (m_partTo : Nat → Int) (m_partWord : Nat → Int) (m_partEnding : Nat → Int) (m_found : Int) (m_from0 : Int) (m_kind0 : Int) (m_choiceWord : Nat → Int) (m_choiceEnding : Nat → Int) (m_choiceCost : Nat → Int) (m_choices : Int) (o0 : Nat → Int) (L : Nat) (sc : Nat → Int) : Option (Nat × zZ) :=
  gd (0 ≤ x4 ∧ x4 ≤ 3584) <|
  gd (0 ≤ (x4 + 1) ∧ (x4 + 1) < (L : Int)) <|
  (m_L_type (sc (Int.toNat (x4 + 1))) a_ring a_next a_kept o_leadsKnown o_listedPart r_known s_length s_letters s_breaks s_fixed o0).bind fun (r_698, o0_698, a_ring_698, a_next_698, a_kept_698, o_leadsKnown_698, o_listedPart_698, r_known_698, s_length_698, s_letters_698, s_breaks_698) =>
  gd (0 ≤ (x4 + 1) ∧ (x4 + 1) < (L : Int)) <|
  (m_X9_type (sc (Int.toNat (x4 + 1))) m_code m_n m_fixedMany m_line m_breaks m_fixedFrom m_fixedTo m_fixedWord m_fixedEnding m_acts m_oldN m_oldFixed m_oldLine m_oldBreaks m_oldFrom m_oldTo m_oldWord m_oldEnding m_isRead m_isMade).bind fun (r_710, m_code_710, m_n_710, m_line_710, m_breaks_710, m_acts_710, m_oldN_710, m_oldFixed_710, m_oldLine_710, m_oldBreaks_710, m_oldFrom_710, m_oldTo_710, m_oldWord_710, m_oldEnding_710, m_isRead_710, m_isMade_710) =>
  (m_X9_thrown m_code_710).bind fun r_716 =>
  gd (inI r_716) <|
  gd (inI r_698) <|
  if r_716 = r_698 then
    if r_698 = 0 then
      gd (inI r_710) <|
      gd (inL (o0_698 (Int.toNat 0))) <|
      gd (inL r_710) <|
      if (o0_698 (Int.toNat 0)) = r_710 then
        m_L_law_1449 x4 a_ring_698 a_next_698 a_kept_698 b_spellingsOf b_spellingRows b_spellingLengths b_spellingPrices b_words b_wordSounds b_wordSigns b_wordKinds b_wordClasses b_counts b_endings b_endingSounds b_endingSigns b_endingClasses b_endingPrices b_prices b_stepPrices b_pairsOf b_stepCosts o_tails o_leads o_leadsKnown_698 o_listedPart_698 o_length o_entries o_costs r_fixedValues r_heads r_rests r_known_698 r_total r_length r_begins r_ends r_entries r_costs s_length_698 s_letters_698 s_breaks_698 s_fixed v_values v_lettersRead v_columns p_now p_nowA p_next p_nextA p_low p_high p_seeds p_seedLows t_entries t_lengths t_kept m_code_710 m_spellMany m_spellPrice m_spell m_sounds m_signs m_endSounds m_kind m_itsClass m_count m_endSign m_endClass m_endPrice m_words m_endings m_slip m_guess m_base m_steps m_pairs m_n_710 m_fixedMany m_line_710 m_breaks_710 m_fixedFrom m_fixedTo m_fixedWord m_fixedEnding m_acts_710 m_oldN_710 m_oldFixed_710 m_oldLine_710 m_oldBreaks_710 m_oldFrom_710 m_oldTo_710 m_oldWord_710 m_oldEnding_710 m_kept m_keptMany m_keptWord m_keptKind m_isRead_710 m_isMade_710 m_table m_reach m_next m_rest m_ahead m_parts m_total m_partFrom m_partTo m_partWord m_partEnding m_found m_from0 m_kind0 m_choiceWord m_choiceEnding m_choiceCost m_choices o0_698 L sc
      else
        none
    else
      m_L_law_1449 x4 a_ring_698 a_next_698 a_kept_698 b_spellingsOf b_spellingRows b_spellingLengths b_spellingPrices b_words b_wordSounds b_wordSigns b_wordKinds b_wordClasses b_counts b_endings b_endingSounds b_endingSigns b_endingClasses b_endingPrices b_prices b_stepPrices b_pairsOf b_stepCosts o_tails o_leads o_leadsKnown_698 o_listedPart_698 o_length o_entries o_costs r_fixedValues r_heads r_rests r_known_698 r_total r_length r_begins r_ends r_entries r_costs s_length_698 s_letters_698 s_breaks_698 s_fixed v_values v_lettersRead v_columns p_now p_nowA p_next p_nextA p_low p_high p_seeds p_seedLows t_entries t_lengths t_kept m_code_710 m_spellMany m_spellPrice m_spell m_sounds m_signs m_endSounds m_kind m_itsClass m_count m_endSign m_endClass m_endPrice m_words m_endings m_slip m_guess m_base m_steps m_pairs m_n_710 m_fixedMany m_line_710 m_breaks_710 m_fixedFrom m_fixedTo m_fixedWord m_fixedEnding m_acts_710 m_oldN_710 m_oldFixed_710 m_oldLine_710 m_oldBreaks_710 m_oldFrom_710 m_oldTo_710 m_oldWord_710 m_oldEnding_710 m_kept m_keptMany m_keptWord m_keptKind m_isRead_710 m_isMade_710 m_table m_reach m_next m_rest m_ahead m_parts m_total m_partFrom m_partTo m_partWord m_partEnding m_found m_from0 m_kind0 m_choiceWord m_choiceEnding m_choiceCost m_choices o0_698 L sc
  else
    none
def m_L_law_746 (x4 : Int) (a_ring : List zSv) (a_next : Int) (a_kept : Int) (b_spellingsOf : Nat → Int) (b_spellingRows : Nat → Int) (b_spellingLengths : Nat → Int) (b_spellingPrices : Nat → Int) (b_words : Int) (b_wordSounds : Nat → Int) (b_wordSigns : Nat → Int) (b_wordKinds : Nat → Int) (b_wordClasses : Nat → Int) (b_counts : Nat → Int) (b_endings : Int) (b_endingSounds : Nat → Int) (b_endingSigns : Nat → Int) (b_endingClasses : Nat → Int) (b_endingPrices : Nat → Int) (b_prices : Nat → Int) (b_stepPrices : Nat → Int) (b_pairsOf : Nat → Int) (b_stepCosts : Nat → Int) (o_tails : Nat → Int) (o_leads : Nat → Int) (o_leadsKnown : Int) (o_listedPart : Int) (o_length : Int) (o_entries : Nat → Int) (o_costs : Nat → Int) (r_fixedValues : Nat → Int) (r_heads : Nat → Int) (r_rests : Nat → Int) (r_known : Int) (r_total : Int) (r_length : Int) (r_begins : Nat → Int) (r_ends : Nat → Int) (r_entries : Nat → Int) (r_costs : Nat → Int) (s_length : Int) (s_letters : Nat → Int) (s_breaks : Nat → Int) (s_fixed : Nat → Int) (v_values : Nat → Int) (v_lettersRead : Nat → Int) (v_columns : Int) (p_now : Nat → Int) (p_nowA : Nat) (p_next : Nat → Int) (p_nextA : Nat) (p_low : Int) (p_high : Int) (p_seeds : Nat → Int) (p_seedLows : Nat → Int) (t_entries : Nat → Int) (t_lengths : Nat → Int) (t_kept : Int) (m_code : Int) (m_spellMany : Nat → Int) (m_spellPrice : Nat → Int) (m_spell : Nat → Int) (m_sounds : Nat → Int) (m_signs : Nat → Int) (m_endSounds : Nat → Int) (m_kind : Nat → Int) (m_itsClass : Nat → Int) (m_count : Nat → Int) (m_endSign : Nat → Int) (m_endClass : Nat → Int) (m_endPrice : Nat → Int) (m_words : Int) (m_endings : Int) (m_slip : Int) (m_guess : Int) (m_base : Int) (m_steps : Nat → Int) (m_pairs : Nat → Int) (m_n : Int) (m_fixedMany : Int) (m_line : Nat → Int) (m_breaks : Nat → Int) (m_fixedFrom : Nat → Int) (m_fixedTo : Nat → Int) (m_fixedWord : Nat → Int) (m_fixedEnding : Nat → Int) (m_acts : Int) (m_oldN : Nat → Int) (m_oldFixed : Nat → Int) (m_oldLine : Nat → Int) (m_oldBreaks : Nat → Int) (m_oldFrom : Nat → Int) (m_oldTo : Nat → Int) (m_oldWord : Nat → Int) (m_oldEnding : Nat → Int) (m_kept : Int) (m_keptMany : Nat → Int) (m_keptWord : Nat → Int) (m_keptKind : Nat → Int) (m_isRead : Int) (m_isMade : Int) (m_table : Nat → Int) (m_reach : Nat → Int) (m_next : Nat → Int) (m_rest : Nat → Int) (m_ahead : Nat → Int) (m_parts : Int) (m_total : Int) (m_partFrom : Nat → Int) (m_partTo : Nat → Int) (m_partWord : Nat → Int) (m_partEnding : Nat → Int) (m_found : Int) (m_from0 : Int) (m_kind0 : Int) (m_choiceWord : Nat → Int) (m_choiceEnding : Nat → Int) (m_choiceCost : Nat → Int) (m_choices : Int) (o0 : Nat → Int) (L : Nat) (sc : Nat → Int) : Option (Nat × zZ) :=
  gd (0 ≤ x4 ∧ x4 ≤ 3584) <|
  gd (0 ≤ (x4 + 1) ∧ (x4 + 1) < (L : Int)) <|
  (m_L_typed (sc (Int.toNat (x4 + 1))) s_length s_letters o0).bind fun (r_754, o0_754) =>
  gd (0 ≤ (x4 + 1) ∧ (x4 + 1) < (L : Int)) <|
  (m_X9_typed (sc (Int.toNat (x4 + 1))) m_code m_n m_line).bind fun (r_766, m_code_766) =>
  (m_X9_thrown m_code_766).bind fun r_772 =>
  gd (inI r_772) <|
  gd (inI r_754) <|
  if r_772 = r_754 then
    if r_754 = 0 then
      gd (inI r_766) <|
      gd (inL (o0_754 (Int.toNat 0))) <|
      gd (inL r_766) <|
      if (o0_754 (Int.toNat 0)) = r_766 then
        m_L_law_1449 x4 a_ring a_next a_kept b_spellingsOf b_spellingRows b_spellingLengths b_spellingPrices b_words b_wordSounds b_wordSigns b_wordKinds b_wordClasses b_counts b_endings b_endingSounds b_endingSigns b_endingClasses b_endingPrices b_prices b_stepPrices b_pairsOf b_stepCosts o_tails o_leads o_leadsKnown o_listedPart o_length o_entries o_costs r_fixedValues r_heads r_rests r_known r_total r_length r_begins r_ends r_entries r_costs s_length s_letters s_breaks s_fixed v_values v_lettersRead v_columns p_now p_nowA p_next p_nextA p_low p_high p_seeds p_seedLows t_entries t_lengths t_kept m_code_766 m_spellMany m_spellPrice m_spell m_sounds m_signs m_endSounds m_kind m_itsClass m_count m_endSign m_endClass m_endPrice m_words m_endings m_slip m_guess m_base m_steps m_pairs m_n m_fixedMany m_line m_breaks m_fixedFrom m_fixedTo m_fixedWord m_fixedEnding m_acts m_oldN m_oldFixed m_oldLine m_oldBreaks m_oldFrom m_oldTo m_oldWord m_oldEnding m_kept m_keptMany m_keptWord m_keptKind m_isRead m_isMade m_table m_reach m_next m_rest m_ahead m_parts m_total m_partFrom m_partTo m_partWord m_partEnding m_found m_from0 m_kind0 m_choiceWord m_choiceEnding m_choiceCost m_choices o0_754 L sc
      else
        none
    else
      m_L_law_1449 x4 a_ring a_next a_kept b_spellingsOf b_spellingRows b_spellingLengths b_spellingPrices b_words b_wordSounds b_wordSigns b_wordKinds b_wordClasses b_counts b_endings b_endingSounds b_endingSigns b_endingClasses b_endingPrices b_prices b_stepPrices b_pairsOf b_stepCosts o_tails o_leads o_leadsKnown o_listedPart o_length o_entries o_costs r_fixedValues r_heads r_rests r_known r_total r_length r_begins r_ends r_entries r_costs s_length s_letters s_breaks s_fixed v_values v_lettersRead v_columns p_now p_nowA p_next p_nextA p_low p_high p_seeds p_seedLows t_entries t_lengths t_kept m_code_766 m_spellMany m_spellPrice m_spell m_sounds m_signs m_endSounds m_kind m_itsClass m_count m_endSign m_endClass m_endPrice m_words m_endings m_slip m_guess m_base m_steps m_pairs m_n m_fixedMany m_line m_breaks m_fixedFrom m_fixedTo m_fixedWord m_fixedEnding m_acts m_oldN m_oldFixed m_oldLine m_oldBreaks m_oldFrom m_oldTo m_oldWord m_oldEnding m_kept m_keptMany m_keptWord m_keptKind m_isRead m_isMade m_table m_reach m_next m_rest m_ahead m_parts m_total m_partFrom m_partTo m_partWord m_partEnding m_found m_from0 m_kind0 m_choiceWord m_choiceEnding m_choiceCost m_choices o0_754 L sc
  else
    none
def m_L_law_802 (x4 : Int) (a_ring : List zSv) (a_next : Int) (a_kept : Int) (b_spellingsOf : Nat → Int) (b_spellingRows : Nat → Int) (b_spellingLengths : Nat → Int) (b_spellingPrices : Nat → Int) (b_words : Int) (b_wordSounds : Nat → Int) (b_wordSigns : Nat → Int) (b_wordKinds : Nat → Int) (b_wordClasses : Nat → Int) (b_counts : Nat → Int) (b_endings : Int) (b_endingSounds : Nat → Int) (b_endingSigns : Nat → Int) (b_endingClasses : Nat → Int) (b_endingPrices : Nat → Int) (b_prices : Nat → Int) (b_stepPrices : Nat → Int) (b_pairsOf : Nat → Int) (b_stepCosts : Nat → Int) (o_tails : Nat → Int) (o_leads : Nat → Int) (o_leadsKnown : Int) (o_listedPart : Int) (o_length : Int) (o_entries : Nat → Int) (o_costs : Nat → Int) (r_fixedValues : Nat → Int) (r_heads : Nat → Int) (r_rests : Nat → Int) (r_known : Int) (r_total : Int) (r_length : Int) (r_begins : Nat → Int) (r_ends : Nat → Int) (r_entries : Nat → Int) (r_costs : Nat → Int) (s_length : Int) (s_letters : Nat → Int) (s_breaks : Nat → Int) (s_fixed : Nat → Int) (v_values : Nat → Int) (v_lettersRead : Nat → Int) (v_columns : Int) (p_now : Nat → Int) (p_nowA : Nat) (p_next : Nat → Int) (p_nextA : Nat) (p_low : Int) (p_high : Int) (p_seeds : Nat → Int) (p_seedLows : Nat → Int) (t_entries : Nat → Int) (t_lengths : Nat → Int) (t_kept : Int) (m_code : Int) (m_spellMany : Nat → Int) (m_spellPrice : Nat → Int) (m_spell : Nat → Int) (m_sounds : Nat → Int) (m_signs : Nat → Int) (m_endSounds : Nat → Int) (m_kind : Nat → Int) (m_itsClass : Nat → Int) (m_count : Nat → Int) (m_endSign : Nat → Int) (m_endClass : Nat → Int) (m_endPrice : Nat → Int) (m_words : Int) (m_endings : Int) (m_slip : Int) (m_guess : Int) (m_base : Int) (m_steps : Nat → Int) (m_pairs : Nat → Int) (m_n : Int) (m_fixedMany : Int) (m_line : Nat → Int) (m_breaks : Nat → Int) (m_fixedFrom : Nat → Int) (m_fixedTo : Nat → Int) (m_fixedWord : Nat → Int) (m_fixedEnding : Nat → Int) (m_acts : Int) (m_oldN : Nat → Int) (m_oldFixed : Nat → Int) (m_oldLine : Nat → Int) (m_oldBreaks : Nat → Int) (m_oldFrom : Nat → Int) (m_oldTo : Nat → Int) (m_oldWord : Nat → Int) (m_oldEnding : Nat → Int) (m_kept : Int) (m_keptMany : Nat → Int) (m_keptWord : Nat → Int) (m_keptKind : Nat → Int) (m_isRead : Int) (m_isMade : Int) (m_table : Nat → Int) (m_reach : Nat → Int) (m_next : Nat → Int) (m_rest : Nat → Int) (m_ahead : Nat → Int) (m_parts : Int) (m_total : Int) (m_partFrom : Nat → Int) (m_partTo : Nat → Int) (m_partWord : Nat → Int) (m_partEnding : Nat → Int) (m_found : Int) (m_from0 : Int) (m_kind0 : Int) (m_choiceWord : Nat → Int) (m_choiceEnding : Nat → Int) (m_choiceCost : Nat → Int) (m_choices : Int) (o0 : Nat → Int) (L : Nat) (sc : Nat → Int) : Option (Nat × zZ) :=
  gd (0 ≤ x4 ∧ x4 ≤ 3584) <|
  (m_X8_cost b_spellingsOf b_spellingRows b_spellingLengths b_spellingPrices b_words b_wordSounds b_wordKinds b_wordClasses b_counts b_endings b_endingSounds b_endingClasses b_endingPrices b_prices b_stepCosts r_fixedValues r_heads r_rests r_known r_total r_length r_begins r_ends r_entries r_costs s_length s_letters s_breaks s_fixed v_values v_lettersRead v_columns p_now p_nowA p_next p_nextA p_low p_high p_seeds p_seedLows).bind fun (r_803, r_fixedValues_803, r_heads_803, r_rests_803, r_known_803, r_total_803, r_length_803, r_begins_803, r_ends_803, r_entries_803, r_costs_803, v_values_803, v_lettersRead_803, v_columns_803, p_now_803, p_nowA_803, p_next_803, p_nextA_803, p_low_803, p_high_803, p_seeds_803, p_seedLows_803) =>
  (m_X9_cost m_code m_spellMany m_spellPrice m_spell m_sounds m_endSounds m_kind m_itsClass m_count m_endClass m_endPrice m_words m_endings m_slip m_guess m_base m_steps m_pairs m_n m_fixedMany m_line m_breaks m_fixedFrom m_fixedTo m_fixedWord m_fixedEnding m_isRead m_isMade m_table m_reach m_next m_rest m_ahead m_parts m_total m_partFrom m_partTo m_partWord m_partEnding m_found m_from0 m_kind0).bind fun (r_807, m_code_807, m_isRead_807, m_isMade_807, m_table_807, m_reach_807, m_next_807, m_rest_807, m_ahead_807, m_parts_807, m_total_807, m_partFrom_807, m_partTo_807, m_partWord_807, m_partEnding_807, m_found_807, m_from0_807, m_kind0_807) =>
  gd (inI r_803) <|
  gd (inI r_807) <|
  if r_803 = r_807 then
    m_L_law_1449 x4 a_ring a_next a_kept b_spellingsOf b_spellingRows b_spellingLengths b_spellingPrices b_words b_wordSounds b_wordSigns b_wordKinds b_wordClasses b_counts b_endings b_endingSounds b_endingSigns b_endingClasses b_endingPrices b_prices b_stepPrices b_pairsOf b_stepCosts o_tails o_leads o_leadsKnown o_listedPart o_length o_entries o_costs r_fixedValues_803 r_heads_803 r_rests_803 r_known_803 r_total_803 r_length_803 r_begins_803 r_ends_803 r_entries_803 r_costs_803 s_length s_letters s_breaks s_fixed v_values_803 v_lettersRead_803 v_columns_803 p_now_803 p_nowA_803 p_next_803 p_nextA_803 p_low_803 p_high_803 p_seeds_803 p_seedLows_803 t_entries t_lengths t_kept m_code_807 m_spellMany m_spellPrice m_spell m_sounds m_signs m_endSounds m_kind m_itsClass m_count m_endSign m_endClass m_endPrice m_words m_endings m_slip m_guess m_base m_steps m_pairs m_n m_fixedMany m_line m_breaks m_fixedFrom m_fixedTo m_fixedWord m_fixedEnding m_acts m_oldN m_oldFixed m_oldLine m_oldBreaks m_oldFrom m_oldTo m_oldWord m_oldEnding m_kept m_keptMany m_keptWord m_keptKind m_isRead_807 m_isMade_807 m_table_807 m_reach_807 m_next_807 m_rest_807 m_ahead_807 m_parts_807 m_total_807 m_partFrom_807 m_partTo_807 m_partWord_807 m_partEnding_807 m_found_807 m_from0_807 m_kind0_807 m_choiceWord m_choiceEnding m_choiceCost m_choices o0 L sc
  else
    none
def m_L_law_815 (x4 : Int) (a_ring : List zSv) (a_next : Int) (a_kept : Int) (b_spellingsOf : Nat → Int) (b_spellingRows : Nat → Int) (b_spellingLengths : Nat → Int) (b_spellingPrices : Nat → Int) (b_words : Int) (b_wordSounds : Nat → Int) (b_wordSigns : Nat → Int) (b_wordKinds : Nat → Int) (b_wordClasses : Nat → Int) (b_counts : Nat → Int) (b_endings : Int) (b_endingSounds : Nat → Int) (b_endingSigns : Nat → Int) (b_endingClasses : Nat → Int) (b_endingPrices : Nat → Int) (b_prices : Nat → Int) (b_stepPrices : Nat → Int) (b_pairsOf : Nat → Int) (b_stepCosts : Nat → Int) (o_tails : Nat → Int) (o_leads : Nat → Int) (o_leadsKnown : Int) (o_listedPart : Int) (o_length : Int) (o_entries : Nat → Int) (o_costs : Nat → Int) (r_fixedValues : Nat → Int) (r_heads : Nat → Int) (r_rests : Nat → Int) (r_known : Int) (r_total : Int) (r_length : Int) (r_begins : Nat → Int) (r_ends : Nat → Int) (r_entries : Nat → Int) (r_costs : Nat → Int) (s_length : Int) (s_letters : Nat → Int) (s_breaks : Nat → Int) (s_fixed : Nat → Int) (v_values : Nat → Int) (v_lettersRead : Nat → Int) (v_columns : Int) (p_now : Nat → Int) (p_nowA : Nat) (p_next : Nat → Int) (p_nextA : Nat) (p_low : Int) (p_high : Int) (p_seeds : Nat → Int) (p_seedLows : Nat → Int) (t_entries : Nat → Int) (t_lengths : Nat → Int) (t_kept : Int) (m_code : Int) (m_spellMany : Nat → Int) (m_spellPrice : Nat → Int) (m_spell : Nat → Int) (m_sounds : Nat → Int) (m_signs : Nat → Int) (m_endSounds : Nat → Int) (m_kind : Nat → Int) (m_itsClass : Nat → Int) (m_count : Nat → Int) (m_endSign : Nat → Int) (m_endClass : Nat → Int) (m_endPrice : Nat → Int) (m_words : Int) (m_endings : Int) (m_slip : Int) (m_guess : Int) (m_base : Int) (m_steps : Nat → Int) (m_pairs : Nat → Int) (m_n : Int) (m_fixedMany : Int) (m_line : Nat → Int) (m_breaks : Nat → Int) (m_fixedFrom : Nat → Int) (m_fixedTo : Nat → Int) (m_fixedWord : Nat → Int) (m_fixedEnding : Nat → Int) (m_acts : Int) (m_oldN : Nat → Int) (m_oldFixed : Nat → Int) (m_oldLine : Nat → Int) (m_oldBreaks : Nat → Int) (m_oldFrom : Nat → Int) (m_oldTo : Nat → Int) (m_oldWord : Nat → Int) (m_oldEnding : Nat → Int) (m_kept : Int) (m_keptMany : Nat → Int) (m_keptWord : Nat → Int) (m_keptKind : Nat → Int) (m_isRead : Int) (m_isMade : Int) (m_table : Nat → Int) (m_reach : Nat → Int) (m_next : Nat → Int) (m_rest : Nat → Int) (m_ahead : Nat → Int) (m_parts : Int) (m_total : Int) (m_partFrom : Nat → Int) (m_partTo : Nat → Int) (m_partWord : Nat → Int) (m_partEnding : Nat → Int) (m_found : Int) (m_from0 : Int) (m_kind0 : Int) (m_choiceWord : Nat → Int) (m_choiceEnding : Nat → Int) (m_choiceCost : Nat → Int) (m_choices : Int) (o0 : Nat → Int) (L : Nat) (sc : Nat → Int) : Option (Nat × zZ) :=
  gd (0 ≤ x4 ∧ x4 ≤ 3584) <|
  (m_X8_parts b_spellingsOf b_spellingRows b_spellingLengths b_spellingPrices b_words b_wordSounds b_wordKinds b_wordClasses b_counts b_endings b_endingSounds b_endingClasses b_endingPrices b_prices b_stepCosts r_fixedValues r_heads r_rests r_known r_total r_length r_begins r_ends r_entries r_costs s_length s_letters s_breaks s_fixed v_values v_lettersRead v_columns p_now p_nowA p_next p_nextA p_low p_high p_seeds p_seedLows).bind fun (r_816, r_fixedValues_816, r_heads_816, r_rests_816, r_known_816, r_total_816, r_length_816, r_begins_816, r_ends_816, r_entries_816, r_costs_816, v_values_816, v_lettersRead_816, v_columns_816, p_now_816, p_nowA_816, p_next_816, p_nextA_816, p_low_816, p_high_816, p_seeds_816, p_seedLows_816) =>
  (m_X9_parts m_code m_spellMany m_spellPrice m_spell m_sounds m_endSounds m_kind m_itsClass m_count m_endClass m_endPrice m_words m_endings m_slip m_guess m_base m_steps m_pairs m_n m_fixedMany m_line m_breaks m_fixedFrom m_fixedTo m_fixedWord m_fixedEnding m_isRead m_isMade m_table m_reach m_next m_rest m_ahead m_parts m_total m_partFrom m_partTo m_partWord m_partEnding m_found m_from0 m_kind0).bind fun (r_820, m_code_820, m_isRead_820, m_isMade_820, m_table_820, m_reach_820, m_next_820, m_rest_820, m_ahead_820, m_parts_820, m_total_820, m_partFrom_820, m_partTo_820, m_partWord_820, m_partEnding_820, m_found_820, m_from0_820, m_kind0_820) =>
  gd (inI r_816) <|
  gd (inI r_820) <|
  if r_816 = r_820 then
    m_L_law_1449 x4 a_ring a_next a_kept b_spellingsOf b_spellingRows b_spellingLengths b_spellingPrices b_words b_wordSounds b_wordSigns b_wordKinds b_wordClasses b_counts b_endings b_endingSounds b_endingSigns b_endingClasses b_endingPrices b_prices b_stepPrices b_pairsOf b_stepCosts o_tails o_leads o_leadsKnown o_listedPart o_length o_entries o_costs r_fixedValues_816 r_heads_816 r_rests_816 r_known_816 r_total_816 r_length_816 r_begins_816 r_ends_816 r_entries_816 r_costs_816 s_length s_letters s_breaks s_fixed v_values_816 v_lettersRead_816 v_columns_816 p_now_816 p_nowA_816 p_next_816 p_nextA_816 p_low_816 p_high_816 p_seeds_816 p_seedLows_816 t_entries t_lengths t_kept m_code_820 m_spellMany m_spellPrice m_spell m_sounds m_signs m_endSounds m_kind m_itsClass m_count m_endSign m_endClass m_endPrice m_words m_endings m_slip m_guess m_base m_steps m_pairs m_n m_fixedMany m_line m_breaks m_fixedFrom m_fixedTo m_fixedWord m_fixedEnding m_acts m_oldN m_oldFixed m_oldLine m_oldBreaks m_oldFrom m_oldTo m_oldWord m_oldEnding m_kept m_keptMany m_keptWord m_keptKind m_isRead_820 m_isMade_820 m_table_820 m_reach_820 m_next_820 m_rest_820 m_ahead_820 m_parts_820 m_total_820 m_partFrom_820 m_partTo_820 m_partWord_820 m_partEnding_820 m_found_820 m_from0_820 m_kind0_820 m_choiceWord m_choiceEnding m_choiceCost m_choices o0 L sc
  else
    none
def m_L_law_828 (x4 : Int) (a_ring : List zSv) (a_next : Int) (a_kept : Int) (b_spellingsOf : Nat → Int) (b_spellingRows : Nat → Int) (b_spellingLengths : Nat → Int) (b_spellingPrices : Nat → Int) (b_words : Int) (b_wordSounds : Nat → Int) (b_wordSigns : Nat → Int) (b_wordKinds : Nat → Int) (b_wordClasses : Nat → Int) (b_counts : Nat → Int) (b_endings : Int) (b_endingSounds : Nat → Int) (b_endingSigns : Nat → Int) (b_endingClasses : Nat → Int) (b_endingPrices : Nat → Int) (b_prices : Nat → Int) (b_stepPrices : Nat → Int) (b_pairsOf : Nat → Int) (b_stepCosts : Nat → Int) (o_tails : Nat → Int) (o_leads : Nat → Int) (o_leadsKnown : Int) (o_listedPart : Int) (o_length : Int) (o_entries : Nat → Int) (o_costs : Nat → Int) (r_fixedValues : Nat → Int) (r_heads : Nat → Int) (r_rests : Nat → Int) (r_known : Int) (r_total : Int) (r_length : Int) (r_begins : Nat → Int) (r_ends : Nat → Int) (r_entries : Nat → Int) (r_costs : Nat → Int) (s_length : Int) (s_letters : Nat → Int) (s_breaks : Nat → Int) (s_fixed : Nat → Int) (v_values : Nat → Int) (v_lettersRead : Nat → Int) (v_columns : Int) (p_now : Nat → Int) (p_nowA : Nat) (p_next : Nat → Int) (p_nextA : Nat) (p_low : Int) (p_high : Int) (p_seeds : Nat → Int) (p_seedLows : Nat → Int) (t_entries : Nat → Int) (t_lengths : Nat → Int) (t_kept : Int) (m_code : Int) (m_spellMany : Nat → Int) (m_spellPrice : Nat → Int) (m_spell : Nat → Int) (m_sounds : Nat → Int) (m_signs : Nat → Int) (m_endSounds : Nat → Int) (m_kind : Nat → Int) (m_itsClass : Nat → Int) (m_count : Nat → Int) (m_endSign : Nat → Int) (m_endClass : Nat → Int) (m_endPrice : Nat → Int) (m_words : Int) (m_endings : Int) (m_slip : Int) (m_guess : Int) (m_base : Int) (m_steps : Nat → Int) (m_pairs : Nat → Int) (m_n : Int) (m_fixedMany : Int) (m_line : Nat → Int) (m_breaks : Nat → Int) (m_fixedFrom : Nat → Int) (m_fixedTo : Nat → Int) (m_fixedWord : Nat → Int) (m_fixedEnding : Nat → Int) (m_acts : Int) (m_oldN : Nat → Int) (m_oldFixed : Nat → Int) (m_oldLine : Nat → Int) (m_oldBreaks : Nat → Int) (m_oldFrom : Nat → Int) (m_oldTo : Nat → Int) (m_oldWord : Nat → Int) (m_oldEnding : Nat → Int) (m_kept : Int) (m_keptMany : Nat → Int) (m_keptWord : Nat → Int) (m_keptKind : Nat → Int) (m_isRead : Int) (m_isMade : Int) (m_table : Nat → Int) (m_reach : Nat → Int) (m_next : Nat → Int) (m_rest : Nat → Int) (m_ahead : Nat → Int) (m_parts : Int) (m_total : Int) (m_partFrom : Nat → Int) (m_partTo : Nat → Int) (m_partWord : Nat → Int) (m_partEnding : Nat → Int) (m_found : Int) (m_from0 : Int) (m_kind0 : Int) (m_choiceWord : Nat → Int) (m_choiceEnding : Nat → Int) (m_choiceCost : Nat → Int) (m_choices : Int) (o0 : Nat → Int) (L : Nat) (sc : Nat → Int) : Option (Nat × zZ) :=
  gd (0 ≤ x4 ∧ x4 ≤ 3584) <|
  gd (0 ≤ (x4 + 1) ∧ (x4 + 1) < (L : Int)) <|
  gd (0 ≤ (x4 + 2) ∧ (x4 + 2) < (L : Int)) <|
  (m_L_part (sc (Int.toNat (x4 + 1))) (sc (Int.toNat (x4 + 2))) b_spellingsOf b_spellingRows b_spellingLengths b_spellingPrices b_words b_wordSounds b_wordKinds b_wordClasses b_counts b_endings b_endingSounds b_endingClasses b_endingPrices b_prices b_stepCosts r_fixedValues r_heads r_rests r_known r_total r_length r_begins r_ends r_entries r_costs s_length s_letters s_breaks s_fixed v_values v_lettersRead v_columns p_now p_nowA p_next p_nextA p_low p_high p_seeds p_seedLows o0).bind fun (r_842, o0_842, r_fixedValues_842, r_heads_842, r_rests_842, r_known_842, r_total_842, r_length_842, r_begins_842, r_ends_842, r_entries_842, r_costs_842, v_values_842, v_lettersRead_842, v_columns_842, p_now_842, p_nowA_842, p_next_842, p_nextA_842, p_low_842, p_high_842, p_seeds_842, p_seedLows_842) =>
  gd (0 ≤ (x4 + 1) ∧ (x4 + 1) < (L : Int)) <|
  gd (0 ≤ (x4 + 2) ∧ (x4 + 2) < (L : Int)) <|
  (m_X9_part (sc (Int.toNat (x4 + 1))) (sc (Int.toNat (x4 + 2))) m_code m_spellMany m_spellPrice m_spell m_sounds m_endSounds m_kind m_itsClass m_count m_endClass m_endPrice m_words m_endings m_slip m_guess m_base m_steps m_pairs m_n m_fixedMany m_line m_breaks m_fixedFrom m_fixedTo m_fixedWord m_fixedEnding m_isRead m_isMade m_table m_reach m_next m_rest m_ahead m_parts m_total m_partFrom m_partTo m_partWord m_partEnding m_found m_from0 m_kind0).bind fun (r_860, m_code_860, m_isRead_860, m_isMade_860, m_table_860, m_reach_860, m_next_860, m_rest_860, m_ahead_860, m_parts_860, m_total_860, m_partFrom_860, m_partTo_860, m_partWord_860, m_partEnding_860, m_found_860, m_from0_860, m_kind0_860) =>
  (m_X9_thrown m_code_860).bind fun r_866 =>
  gd (inI r_866) <|
  gd (inI r_842) <|
  if r_866 = r_842 then
    if r_842 = 0 then
      gd (inI r_860) <|
      gd (inL (o0_842 (Int.toNat 0))) <|
      gd (inL r_860) <|
      if (o0_842 (Int.toNat 0)) = r_860 then
        m_L_law_1449 x4 a_ring a_next a_kept b_spellingsOf b_spellingRows b_spellingLengths b_spellingPrices b_words b_wordSounds b_wordSigns b_wordKinds b_wordClasses b_counts b_endings b_endingSounds b_endingSigns b_endingClasses b_endingPrices b_prices b_stepPrices b_pairsOf b_stepCosts o_tails o_leads o_leadsKnown o_listedPart o_length o_entries o_costs r_fixedValues_842 r_heads_842 r_rests_842 r_known_842 r_total_842 r_length_842 r_begins_842 r_ends_842 r_entries_842 r_costs_842 s_length s_letters s_breaks s_fixed v_values_842 v_lettersRead_842 v_columns_842 p_now_842 p_nowA_842 p_next_842 p_nextA_842 p_low_842 p_high_842 p_seeds_842 p_seedLows_842 t_entries t_lengths t_kept m_code_860 m_spellMany m_spellPrice m_spell m_sounds m_signs m_endSounds m_kind m_itsClass m_count m_endSign m_endClass m_endPrice m_words m_endings m_slip m_guess m_base m_steps m_pairs m_n m_fixedMany m_line m_breaks m_fixedFrom m_fixedTo m_fixedWord m_fixedEnding m_acts m_oldN m_oldFixed m_oldLine m_oldBreaks m_oldFrom m_oldTo m_oldWord m_oldEnding m_kept m_keptMany m_keptWord m_keptKind m_isRead_860 m_isMade_860 m_table_860 m_reach_860 m_next_860 m_rest_860 m_ahead_860 m_parts_860 m_total_860 m_partFrom_860 m_partTo_860 m_partWord_860 m_partEnding_860 m_found_860 m_from0_860 m_kind0_860 m_choiceWord m_choiceEnding m_choiceCost m_choices o0_842 L sc
      else
        none
    else
      m_L_law_1449 x4 a_ring a_next a_kept b_spellingsOf b_spellingRows b_spellingLengths b_spellingPrices b_words b_wordSounds b_wordSigns b_wordKinds b_wordClasses b_counts b_endings b_endingSounds b_endingSigns b_endingClasses b_endingPrices b_prices b_stepPrices b_pairsOf b_stepCosts o_tails o_leads o_leadsKnown o_listedPart o_length o_entries o_costs r_fixedValues_842 r_heads_842 r_rests_842 r_known_842 r_total_842 r_length_842 r_begins_842 r_ends_842 r_entries_842 r_costs_842 s_length s_letters s_breaks s_fixed v_values_842 v_lettersRead_842 v_columns_842 p_now_842 p_nowA_842 p_next_842 p_nextA_842 p_low_842 p_high_842 p_seeds_842 p_seedLows_842 t_entries t_lengths t_kept m_code_860 m_spellMany m_spellPrice m_spell m_sounds m_signs m_endSounds m_kind m_itsClass m_count m_endSign m_endClass m_endPrice m_words m_endings m_slip m_guess m_base m_steps m_pairs m_n m_fixedMany m_line m_breaks m_fixedFrom m_fixedTo m_fixedWord m_fixedEnding m_acts m_oldN m_oldFixed m_oldLine m_oldBreaks m_oldFrom m_oldTo m_oldWord m_oldEnding m_kept m_keptMany m_keptWord m_keptKind m_isRead_860 m_isMade_860 m_table_860 m_reach_860 m_next_860 m_rest_860 m_ahead_860 m_parts_860 m_total_860 m_partFrom_860 m_partTo_860 m_partWord_860 m_partEnding_860 m_found_860 m_from0_860 m_kind0_860 m_choiceWord m_choiceEnding m_choiceCost m_choices o0_842 L sc
  else
    none
def m_L_law_896 (x4 : Int) (a_ring : List zSv) (a_next : Int) (a_kept : Int) (b_spellingsOf : Nat → Int) (b_spellingRows : Nat → Int) (b_spellingLengths : Nat → Int) (b_spellingPrices : Nat → Int) (b_words : Int) (b_wordSounds : Nat → Int) (b_wordSigns : Nat → Int) (b_wordKinds : Nat → Int) (b_wordClasses : Nat → Int) (b_counts : Nat → Int) (b_endings : Int) (b_endingSounds : Nat → Int) (b_endingSigns : Nat → Int) (b_endingClasses : Nat → Int) (b_endingPrices : Nat → Int) (b_prices : Nat → Int) (b_stepPrices : Nat → Int) (b_pairsOf : Nat → Int) (b_stepCosts : Nat → Int) (o_tails : Nat → Int) (o_leads : Nat → Int) (o_leadsKnown : Int) (o_listedPart : Int) (o_length : Int) (o_entries : Nat → Int) (o_costs : Nat → Int) (r_fixedValues : Nat → Int) (r_heads : Nat → Int) (r_rests : Nat → Int) (r_known : Int) (r_total : Int) (r_length : Int) (r_begins : Nat → Int) (r_ends : Nat → Int) (r_entries : Nat → Int) (r_costs : Nat → Int) (s_length : Int) (s_letters : Nat → Int) (s_breaks : Nat → Int) (s_fixed : Nat → Int) (v_values : Nat → Int) (v_lettersRead : Nat → Int) (v_columns : Int) (p_now : Nat → Int) (p_nowA : Nat) (p_next : Nat → Int) (p_nextA : Nat) (p_low : Int) (p_high : Int) (p_seeds : Nat → Int) (p_seedLows : Nat → Int) (t_entries : Nat → Int) (t_lengths : Nat → Int) (t_kept : Int) (m_code : Int) (m_spellMany : Nat → Int) (m_spellPrice : Nat → Int) (m_spell : Nat → Int) (m_sounds : Nat → Int) (m_signs : Nat → Int) (m_endSounds : Nat → Int) (m_kind : Nat → Int) (m_itsClass : Nat → Int) (m_count : Nat → Int) (m_endSign : Nat → Int) (m_endClass : Nat → Int) (m_endPrice : Nat → Int) (m_words : Int) (m_endings : Int) (m_slip : Int) (m_guess : Int) (m_base : Int) (m_steps : Nat → Int) (m_pairs : Nat → Int) (m_n : Int) (m_fixedMany : Int) (m_line : Nat → Int) (m_breaks : Nat → Int) (m_fixedFrom : Nat → Int) (m_fixedTo : Nat → Int) (m_fixedWord : Nat → Int) (m_fixedEnding : Nat → Int) (m_acts : Int) (m_oldN : Nat → Int) (m_oldFixed : Nat → Int) (m_oldLine : Nat → Int) (m_oldBreaks : Nat → Int) (m_oldFrom : Nat → Int) (m_oldTo : Nat → Int) (m_oldWord : Nat → Int) (m_oldEnding : Nat → Int) (m_kept : Int) (m_keptMany : Nat → Int) (m_keptWord : Nat → Int) (m_keptKind : Nat → Int) (m_isRead : Int) (m_isMade : Int) (m_table : Nat → Int) (m_reach : Nat → Int) (m_next : Nat → Int) (m_rest : Nat → Int) (m_ahead : Nat → Int) (m_parts : Int) (m_total : Int) (m_partFrom : Nat → Int) (m_partTo : Nat → Int) (m_partWord : Nat → Int) (m_partEnding : Nat → Int) (m_found : Int) (m_from0 : Int) (m_kind0 : Int) (m_choiceWord : Nat → Int) (m_choiceEnding : Nat → Int) (m_choiceCost : Nat → Int) (m_choices : Int) (o0 : Nat → Int) (L : Nat) (sc : Nat → Int) : Option (Nat × zZ) :=
  gd (0 ≤ x4 ∧ x4 ≤ 3584) <|
  gd (0 ≤ (x4 + 1) ∧ (x4 + 1) < (L : Int)) <|
  (m_L_sign (sc (Int.toNat (x4 + 1))) b_spellingsOf b_spellingRows b_spellingLengths b_spellingPrices b_words b_wordSounds b_wordSigns b_wordKinds b_wordClasses b_counts b_endings b_endingSounds b_endingSigns b_endingClasses b_endingPrices b_prices b_stepCosts r_fixedValues r_heads r_rests r_known r_total r_length r_begins r_ends r_entries r_costs s_length s_letters s_breaks s_fixed v_values v_lettersRead v_columns p_now p_nowA p_next p_nextA p_low p_high p_seeds p_seedLows o0).bind fun (r_904, o0_904, r_fixedValues_904, r_heads_904, r_rests_904, r_known_904, r_total_904, r_length_904, r_begins_904, r_ends_904, r_entries_904, r_costs_904, v_values_904, v_lettersRead_904, v_columns_904, p_now_904, p_nowA_904, p_next_904, p_nextA_904, p_low_904, p_high_904, p_seeds_904, p_seedLows_904) =>
  gd (0 ≤ (x4 + 1) ∧ (x4 + 1) < (L : Int)) <|
  (m_X9_sign (sc (Int.toNat (x4 + 1))) m_code m_spellMany m_spellPrice m_spell m_sounds m_signs m_endSounds m_kind m_itsClass m_count m_endSign m_endClass m_endPrice m_words m_endings m_slip m_guess m_base m_steps m_pairs m_n m_fixedMany m_line m_breaks m_fixedFrom m_fixedTo m_fixedWord m_fixedEnding m_isRead m_isMade m_table m_reach m_next m_rest m_ahead m_parts m_total m_partFrom m_partTo m_partWord m_partEnding m_found m_from0 m_kind0).bind fun (r_916, m_code_916, m_isRead_916, m_isMade_916, m_table_916, m_reach_916, m_next_916, m_rest_916, m_ahead_916, m_parts_916, m_total_916, m_partFrom_916, m_partTo_916, m_partWord_916, m_partEnding_916, m_found_916, m_from0_916, m_kind0_916) =>
  (m_X9_thrown m_code_916).bind fun r_922 =>
  gd (inI r_922) <|
  gd (inI r_904) <|
  if r_922 = r_904 then
    if r_904 = 0 then
      gd (inI r_916) <|
      gd (inL (o0_904 (Int.toNat 0))) <|
      gd (inL r_916) <|
      if (o0_904 (Int.toNat 0)) = r_916 then
        m_L_law_1449 x4 a_ring a_next a_kept b_spellingsOf b_spellingRows b_spellingLengths b_spellingPrices b_words b_wordSounds b_wordSigns b_wordKinds b_wordClasses b_counts b_endings b_endingSounds b_endingSigns b_endingClasses b_endingPrices b_prices b_stepPrices b_pairsOf b_stepCosts o_tails o_leads o_leadsKnown o_listedPart o_length o_entries o_costs r_fixedValues_904 r_heads_904 r_rests_904 r_known_904 r_total_904 r_length_904 r_begins_904 r_ends_904 r_entries_904 r_costs_904 s_length s_letters s_breaks s_fixed v_values_904 v_lettersRead_904 v_columns_904 p_now_904 p_nowA_904 p_next_904 p_nextA_904 p_low_904 p_high_904 p_seeds_904 p_seedLows_904 t_entries t_lengths t_kept m_code_916 m_spellMany m_spellPrice m_spell m_sounds m_signs m_endSounds m_kind m_itsClass m_count m_endSign m_endClass m_endPrice m_words m_endings m_slip m_guess m_base m_steps m_pairs m_n m_fixedMany m_line m_breaks m_fixedFrom m_fixedTo m_fixedWord m_fixedEnding m_acts m_oldN m_oldFixed m_oldLine m_oldBreaks m_oldFrom m_oldTo m_oldWord m_oldEnding m_kept m_keptMany m_keptWord m_keptKind m_isRead_916 m_isMade_916 m_table_916 m_reach_916 m_next_916 m_rest_916 m_ahead_916 m_parts_916 m_total_916 m_partFrom_916 m_partTo_916 m_partWord_916 m_partEnding_916 m_found_916 m_from0_916 m_kind0_916 m_choiceWord m_choiceEnding m_choiceCost m_choices o0_904 L sc
      else
        none
    else
      m_L_law_1449 x4 a_ring a_next a_kept b_spellingsOf b_spellingRows b_spellingLengths b_spellingPrices b_words b_wordSounds b_wordSigns b_wordKinds b_wordClasses b_counts b_endings b_endingSounds b_endingSigns b_endingClasses b_endingPrices b_prices b_stepPrices b_pairsOf b_stepCosts o_tails o_leads o_leadsKnown o_listedPart o_length o_entries o_costs r_fixedValues_904 r_heads_904 r_rests_904 r_known_904 r_total_904 r_length_904 r_begins_904 r_ends_904 r_entries_904 r_costs_904 s_length s_letters s_breaks s_fixed v_values_904 v_lettersRead_904 v_columns_904 p_now_904 p_nowA_904 p_next_904 p_nextA_904 p_low_904 p_high_904 p_seeds_904 p_seedLows_904 t_entries t_lengths t_kept m_code_916 m_spellMany m_spellPrice m_spell m_sounds m_signs m_endSounds m_kind m_itsClass m_count m_endSign m_endClass m_endPrice m_words m_endings m_slip m_guess m_base m_steps m_pairs m_n m_fixedMany m_line m_breaks m_fixedFrom m_fixedTo m_fixedWord m_fixedEnding m_acts m_oldN m_oldFixed m_oldLine m_oldBreaks m_oldFrom m_oldTo m_oldWord m_oldEnding m_kept m_keptMany m_keptWord m_keptKind m_isRead_916 m_isMade_916 m_table_916 m_reach_916 m_next_916 m_rest_916 m_ahead_916 m_parts_916 m_total_916 m_partFrom_916 m_partTo_916 m_partWord_916 m_partEnding_916 m_found_916 m_from0_916 m_kind0_916 m_choiceWord m_choiceEnding m_choiceCost m_choices o0_904 L sc
  else
    none
def m_L_law_952 (x4 : Int) (a_ring : List zSv) (a_next : Int) (a_kept : Int) (b_spellingsOf : Nat → Int) (b_spellingRows : Nat → Int) (b_spellingLengths : Nat → Int) (b_spellingPrices : Nat → Int) (b_words : Int) (b_wordSounds : Nat → Int) (b_wordSigns : Nat → Int) (b_wordKinds : Nat → Int) (b_wordClasses : Nat → Int) (b_counts : Nat → Int) (b_endings : Int) (b_endingSounds : Nat → Int) (b_endingSigns : Nat → Int) (b_endingClasses : Nat → Int) (b_endingPrices : Nat → Int) (b_prices : Nat → Int) (b_stepPrices : Nat → Int) (b_pairsOf : Nat → Int) (b_stepCosts : Nat → Int) (o_tails : Nat → Int) (o_leads : Nat → Int) (o_leadsKnown : Int) (o_listedPart : Int) (o_length : Int) (o_entries : Nat → Int) (o_costs : Nat → Int) (r_fixedValues : Nat → Int) (r_heads : Nat → Int) (r_rests : Nat → Int) (r_known : Int) (r_total : Int) (r_length : Int) (r_begins : Nat → Int) (r_ends : Nat → Int) (r_entries : Nat → Int) (r_costs : Nat → Int) (s_length : Int) (s_letters : Nat → Int) (s_breaks : Nat → Int) (s_fixed : Nat → Int) (v_values : Nat → Int) (v_lettersRead : Nat → Int) (v_columns : Int) (p_now : Nat → Int) (p_nowA : Nat) (p_next : Nat → Int) (p_nextA : Nat) (p_low : Int) (p_high : Int) (p_seeds : Nat → Int) (p_seedLows : Nat → Int) (t_entries : Nat → Int) (t_lengths : Nat → Int) (t_kept : Int) (m_code : Int) (m_spellMany : Nat → Int) (m_spellPrice : Nat → Int) (m_spell : Nat → Int) (m_sounds : Nat → Int) (m_signs : Nat → Int) (m_endSounds : Nat → Int) (m_kind : Nat → Int) (m_itsClass : Nat → Int) (m_count : Nat → Int) (m_endSign : Nat → Int) (m_endClass : Nat → Int) (m_endPrice : Nat → Int) (m_words : Int) (m_endings : Int) (m_slip : Int) (m_guess : Int) (m_base : Int) (m_steps : Nat → Int) (m_pairs : Nat → Int) (m_n : Int) (m_fixedMany : Int) (m_line : Nat → Int) (m_breaks : Nat → Int) (m_fixedFrom : Nat → Int) (m_fixedTo : Nat → Int) (m_fixedWord : Nat → Int) (m_fixedEnding : Nat → Int) (m_acts : Int) (m_oldN : Nat → Int) (m_oldFixed : Nat → Int) (m_oldLine : Nat → Int) (m_oldBreaks : Nat → Int) (m_oldFrom : Nat → Int) (m_oldTo : Nat → Int) (m_oldWord : Nat → Int) (m_oldEnding : Nat → Int) (m_kept : Int) (m_keptMany : Nat → Int) (m_keptWord : Nat → Int) (m_keptKind : Nat → Int) (m_isRead : Int) (m_isMade : Int) (m_table : Nat → Int) (m_reach : Nat → Int) (m_next : Nat → Int) (m_rest : Nat → Int) (m_ahead : Nat → Int) (m_parts : Int) (m_total : Int) (m_partFrom : Nat → Int) (m_partTo : Nat → Int) (m_partWord : Nat → Int) (m_partEnding : Nat → Int) (m_found : Int) (m_from0 : Int) (m_kind0 : Int) (m_choiceWord : Nat → Int) (m_choiceEnding : Nat → Int) (m_choiceCost : Nat → Int) (m_choices : Int) (o0 : Nat → Int) (L : Nat) (sc : Nat → Int) : Option (Nat × zZ) :=
  gd (0 ≤ x4 ∧ x4 ≤ 3584) <|
  gd (0 ≤ (x4 + 1) ∧ (x4 + 1) < (L : Int)) <|
  (m_L_choices (sc (Int.toNat (x4 + 1))) b_spellingsOf b_spellingRows b_spellingLengths b_spellingPrices b_words b_wordSounds b_wordKinds b_wordClasses b_counts b_endings b_endingSounds b_endingClasses b_endingPrices b_prices b_stepCosts o_tails o_leads o_leadsKnown o_listedPart o_length o_entries o_costs r_fixedValues r_heads r_rests r_known r_total r_length r_begins r_ends r_entries r_costs s_length s_letters s_breaks s_fixed v_values v_lettersRead v_columns p_now p_nowA p_next p_nextA p_low p_high p_seeds p_seedLows o0).bind fun (r_960, o0_960, o_tails_960, o_leads_960, o_leadsKnown_960, o_listedPart_960, o_length_960, o_entries_960, o_costs_960, r_fixedValues_960, r_heads_960, r_rests_960, r_known_960, r_total_960, r_length_960, r_begins_960, r_ends_960, r_entries_960, r_costs_960, v_values_960, v_lettersRead_960, v_columns_960, p_now_960, p_nowA_960, p_next_960, p_nextA_960, p_low_960, p_high_960, p_seeds_960, p_seedLows_960) =>
  gd (0 ≤ (x4 + 1) ∧ (x4 + 1) < (L : Int)) <|
  (m_X9_choices (sc (Int.toNat (x4 + 1))) m_code m_spellMany m_spellPrice m_spell m_sounds m_endSounds m_kind m_itsClass m_count m_endClass m_endPrice m_words m_endings m_slip m_guess m_base m_steps m_pairs m_n m_fixedMany m_line m_breaks m_fixedFrom m_fixedTo m_fixedWord m_fixedEnding m_isRead m_isMade m_table m_reach m_next m_rest m_ahead m_parts m_total m_partFrom m_partTo m_partWord m_partEnding m_found m_from0 m_kind0 m_choiceWord m_choiceEnding m_choiceCost m_choices).bind fun (r_972, m_code_972, m_isRead_972, m_isMade_972, m_table_972, m_reach_972, m_next_972, m_rest_972, m_ahead_972, m_parts_972, m_total_972, m_partFrom_972, m_partTo_972, m_partWord_972, m_partEnding_972, m_found_972, m_from0_972, m_kind0_972, m_choiceWord_972, m_choiceEnding_972, m_choiceCost_972, m_choices_972) =>
  (m_X9_thrown m_code_972).bind fun r_978 =>
  gd (inI r_978) <|
  gd (inI r_960) <|
  if r_978 = r_960 then
    if r_960 = 0 then
      gd (inI r_972) <|
      gd (inL (o0_960 (Int.toNat 0))) <|
      gd (inL r_972) <|
      if (o0_960 (Int.toNat 0)) = r_972 then
        m_L_law_1449 x4 a_ring a_next a_kept b_spellingsOf b_spellingRows b_spellingLengths b_spellingPrices b_words b_wordSounds b_wordSigns b_wordKinds b_wordClasses b_counts b_endings b_endingSounds b_endingSigns b_endingClasses b_endingPrices b_prices b_stepPrices b_pairsOf b_stepCosts o_tails_960 o_leads_960 o_leadsKnown_960 o_listedPart_960 o_length_960 o_entries_960 o_costs_960 r_fixedValues_960 r_heads_960 r_rests_960 r_known_960 r_total_960 r_length_960 r_begins_960 r_ends_960 r_entries_960 r_costs_960 s_length s_letters s_breaks s_fixed v_values_960 v_lettersRead_960 v_columns_960 p_now_960 p_nowA_960 p_next_960 p_nextA_960 p_low_960 p_high_960 p_seeds_960 p_seedLows_960 t_entries t_lengths t_kept m_code_972 m_spellMany m_spellPrice m_spell m_sounds m_signs m_endSounds m_kind m_itsClass m_count m_endSign m_endClass m_endPrice m_words m_endings m_slip m_guess m_base m_steps m_pairs m_n m_fixedMany m_line m_breaks m_fixedFrom m_fixedTo m_fixedWord m_fixedEnding m_acts m_oldN m_oldFixed m_oldLine m_oldBreaks m_oldFrom m_oldTo m_oldWord m_oldEnding m_kept m_keptMany m_keptWord m_keptKind m_isRead_972 m_isMade_972 m_table_972 m_reach_972 m_next_972 m_rest_972 m_ahead_972 m_parts_972 m_total_972 m_partFrom_972 m_partTo_972 m_partWord_972 m_partEnding_972 m_found_972 m_from0_972 m_kind0_972 m_choiceWord_972 m_choiceEnding_972 m_choiceCost_972 m_choices_972 o0_960 L sc
      else
        none
    else
      m_L_law_1449 x4 a_ring a_next a_kept b_spellingsOf b_spellingRows b_spellingLengths b_spellingPrices b_words b_wordSounds b_wordSigns b_wordKinds b_wordClasses b_counts b_endings b_endingSounds b_endingSigns b_endingClasses b_endingPrices b_prices b_stepPrices b_pairsOf b_stepCosts o_tails_960 o_leads_960 o_leadsKnown_960 o_listedPart_960 o_length_960 o_entries_960 o_costs_960 r_fixedValues_960 r_heads_960 r_rests_960 r_known_960 r_total_960 r_length_960 r_begins_960 r_ends_960 r_entries_960 r_costs_960 s_length s_letters s_breaks s_fixed v_values_960 v_lettersRead_960 v_columns_960 p_now_960 p_nowA_960 p_next_960 p_nextA_960 p_low_960 p_high_960 p_seeds_960 p_seedLows_960 t_entries t_lengths t_kept m_code_972 m_spellMany m_spellPrice m_spell m_sounds m_signs m_endSounds m_kind m_itsClass m_count m_endSign m_endClass m_endPrice m_words m_endings m_slip m_guess m_base m_steps m_pairs m_n m_fixedMany m_line m_breaks m_fixedFrom m_fixedTo m_fixedWord m_fixedEnding m_acts m_oldN m_oldFixed m_oldLine m_oldBreaks m_oldFrom m_oldTo m_oldWord m_oldEnding m_kept m_keptMany m_keptWord m_keptKind m_isRead_972 m_isMade_972 m_table_972 m_reach_972 m_next_972 m_rest_972 m_ahead_972 m_parts_972 m_total_972 m_partFrom_972 m_partTo_972 m_partWord_972 m_partEnding_972 m_found_972 m_from0_972 m_kind0_972 m_choiceWord_972 m_choiceEnding_972 m_choiceCost_972 m_choices_972 o0_960 L sc
  else
    none
def m_L_law_1008 (x4 : Int) (a_ring : List zSv) (a_next : Int) (a_kept : Int) (b_spellingsOf : Nat → Int) (b_spellingRows : Nat → Int) (b_spellingLengths : Nat → Int) (b_spellingPrices : Nat → Int) (b_words : Int) (b_wordSounds : Nat → Int) (b_wordSigns : Nat → Int) (b_wordKinds : Nat → Int) (b_wordClasses : Nat → Int) (b_counts : Nat → Int) (b_endings : Int) (b_endingSounds : Nat → Int) (b_endingSigns : Nat → Int) (b_endingClasses : Nat → Int) (b_endingPrices : Nat → Int) (b_prices : Nat → Int) (b_stepPrices : Nat → Int) (b_pairsOf : Nat → Int) (b_stepCosts : Nat → Int) (o_tails : Nat → Int) (o_leads : Nat → Int) (o_leadsKnown : Int) (o_listedPart : Int) (o_length : Int) (o_entries : Nat → Int) (o_costs : Nat → Int) (r_fixedValues : Nat → Int) (r_heads : Nat → Int) (r_rests : Nat → Int) (r_known : Int) (r_total : Int) (r_length : Int) (r_begins : Nat → Int) (r_ends : Nat → Int) (r_entries : Nat → Int) (r_costs : Nat → Int) (s_length : Int) (s_letters : Nat → Int) (s_breaks : Nat → Int) (s_fixed : Nat → Int) (v_values : Nat → Int) (v_lettersRead : Nat → Int) (v_columns : Int) (p_now : Nat → Int) (p_nowA : Nat) (p_next : Nat → Int) (p_nextA : Nat) (p_low : Int) (p_high : Int) (p_seeds : Nat → Int) (p_seedLows : Nat → Int) (t_entries : Nat → Int) (t_lengths : Nat → Int) (t_kept : Int) (m_code : Int) (m_spellMany : Nat → Int) (m_spellPrice : Nat → Int) (m_spell : Nat → Int) (m_sounds : Nat → Int) (m_signs : Nat → Int) (m_endSounds : Nat → Int) (m_kind : Nat → Int) (m_itsClass : Nat → Int) (m_count : Nat → Int) (m_endSign : Nat → Int) (m_endClass : Nat → Int) (m_endPrice : Nat → Int) (m_words : Int) (m_endings : Int) (m_slip : Int) (m_guess : Int) (m_base : Int) (m_steps : Nat → Int) (m_pairs : Nat → Int) (m_n : Int) (m_fixedMany : Int) (m_line : Nat → Int) (m_breaks : Nat → Int) (m_fixedFrom : Nat → Int) (m_fixedTo : Nat → Int) (m_fixedWord : Nat → Int) (m_fixedEnding : Nat → Int) (m_acts : Int) (m_oldN : Nat → Int) (m_oldFixed : Nat → Int) (m_oldLine : Nat → Int) (m_oldBreaks : Nat → Int) (m_oldFrom : Nat → Int) (m_oldTo : Nat → Int) (m_oldWord : Nat → Int) (m_oldEnding : Nat → Int) (m_kept : Int) (m_keptMany : Nat → Int) (m_keptWord : Nat → Int) (m_keptKind : Nat → Int) (m_isRead : Int) (m_isMade : Int) (m_table : Nat → Int) (m_reach : Nat → Int) (m_next : Nat → Int) (m_rest : Nat → Int) (m_ahead : Nat → Int) (m_parts : Int) (m_total : Int) (m_partFrom : Nat → Int) (m_partTo : Nat → Int) (m_partWord : Nat → Int) (m_partEnding : Nat → Int) (m_found : Int) (m_from0 : Int) (m_kind0 : Int) (m_choiceWord : Nat → Int) (m_choiceEnding : Nat → Int) (m_choiceCost : Nat → Int) (m_choices : Int) (o0 : Nat → Int) (L : Nat) (sc : Nat → Int) : Option (Nat × zZ) :=
  gd (0 ≤ x4 ∧ x4 ≤ 3584) <|
  gd (0 ≤ (x4 + 1) ∧ (x4 + 1) < (L : Int)) <|
  gd (0 ≤ (x4 + 2) ∧ (x4 + 2) < (L : Int)) <|
  gd (0 ≤ (x4 + 3) ∧ (x4 + 3) < (L : Int)) <|
  (m_L_choice (sc (Int.toNat (x4 + 1))) (sc (Int.toNat (x4 + 2))) (sc (Int.toNat (x4 + 3))) b_spellingsOf b_spellingRows b_spellingLengths b_spellingPrices b_words b_wordSounds b_wordKinds b_wordClasses b_counts b_endings b_endingSounds b_endingClasses b_endingPrices b_prices b_stepCosts o_tails o_leads o_leadsKnown o_listedPart o_length o_entries o_costs r_fixedValues r_heads r_rests r_known r_total r_length r_begins r_ends r_entries r_costs s_length s_letters s_breaks s_fixed v_values v_lettersRead v_columns p_now p_nowA p_next p_nextA p_low p_high p_seeds p_seedLows o0).bind fun (r_1028, o0_1028, o_tails_1028, o_leads_1028, o_leadsKnown_1028, o_listedPart_1028, o_length_1028, o_entries_1028, o_costs_1028, r_fixedValues_1028, r_heads_1028, r_rests_1028, r_known_1028, r_total_1028, r_length_1028, r_begins_1028, r_ends_1028, r_entries_1028, r_costs_1028, v_values_1028, v_lettersRead_1028, v_columns_1028, p_now_1028, p_nowA_1028, p_next_1028, p_nextA_1028, p_low_1028, p_high_1028, p_seeds_1028, p_seedLows_1028) =>
  gd (0 ≤ (x4 + 1) ∧ (x4 + 1) < (L : Int)) <|
  gd (0 ≤ (x4 + 2) ∧ (x4 + 2) < (L : Int)) <|
  gd (0 ≤ (x4 + 3) ∧ (x4 + 3) < (L : Int)) <|
  (m_X9_choice (sc (Int.toNat (x4 + 1))) (sc (Int.toNat (x4 + 2))) (sc (Int.toNat (x4 + 3))) m_code m_spellMany m_spellPrice m_spell m_sounds m_endSounds m_kind m_itsClass m_count m_endClass m_endPrice m_words m_endings m_slip m_guess m_base m_steps m_pairs m_n m_fixedMany m_line m_breaks m_fixedFrom m_fixedTo m_fixedWord m_fixedEnding m_isRead m_isMade m_table m_reach m_next m_rest m_ahead m_parts m_total m_partFrom m_partTo m_partWord m_partEnding m_found m_from0 m_kind0 m_choiceWord m_choiceEnding m_choiceCost m_choices).bind fun (r_1052, m_code_1052, m_isRead_1052, m_isMade_1052, m_table_1052, m_reach_1052, m_next_1052, m_rest_1052, m_ahead_1052, m_parts_1052, m_total_1052, m_partFrom_1052, m_partTo_1052, m_partWord_1052, m_partEnding_1052, m_found_1052, m_from0_1052, m_kind0_1052, m_choiceWord_1052, m_choiceEnding_1052, m_choiceCost_1052, m_choices_1052) =>
  (m_X9_thrown m_code_1052).bind fun r_1058 =>
  gd (inI r_1058) <|
  gd (inI r_1028) <|
  if r_1058 = r_1028 then
    if r_1028 = 0 then
      gd (inI r_1052) <|
      gd (inL (o0_1028 (Int.toNat 0))) <|
      gd (inL r_1052) <|
      if (o0_1028 (Int.toNat 0)) = r_1052 then
        m_L_law_1449 x4 a_ring a_next a_kept b_spellingsOf b_spellingRows b_spellingLengths b_spellingPrices b_words b_wordSounds b_wordSigns b_wordKinds b_wordClasses b_counts b_endings b_endingSounds b_endingSigns b_endingClasses b_endingPrices b_prices b_stepPrices b_pairsOf b_stepCosts o_tails_1028 o_leads_1028 o_leadsKnown_1028 o_listedPart_1028 o_length_1028 o_entries_1028 o_costs_1028 r_fixedValues_1028 r_heads_1028 r_rests_1028 r_known_1028 r_total_1028 r_length_1028 r_begins_1028 r_ends_1028 r_entries_1028 r_costs_1028 s_length s_letters s_breaks s_fixed v_values_1028 v_lettersRead_1028 v_columns_1028 p_now_1028 p_nowA_1028 p_next_1028 p_nextA_1028 p_low_1028 p_high_1028 p_seeds_1028 p_seedLows_1028 t_entries t_lengths t_kept m_code_1052 m_spellMany m_spellPrice m_spell m_sounds m_signs m_endSounds m_kind m_itsClass m_count m_endSign m_endClass m_endPrice m_words m_endings m_slip m_guess m_base m_steps m_pairs m_n m_fixedMany m_line m_breaks m_fixedFrom m_fixedTo m_fixedWord m_fixedEnding m_acts m_oldN m_oldFixed m_oldLine m_oldBreaks m_oldFrom m_oldTo m_oldWord m_oldEnding m_kept m_keptMany m_keptWord m_keptKind m_isRead_1052 m_isMade_1052 m_table_1052 m_reach_1052 m_next_1052 m_rest_1052 m_ahead_1052 m_parts_1052 m_total_1052 m_partFrom_1052 m_partTo_1052 m_partWord_1052 m_partEnding_1052 m_found_1052 m_from0_1052 m_kind0_1052 m_choiceWord_1052 m_choiceEnding_1052 m_choiceCost_1052 m_choices_1052 o0_1028 L sc
      else
        none
    else
      m_L_law_1449 x4 a_ring a_next a_kept b_spellingsOf b_spellingRows b_spellingLengths b_spellingPrices b_words b_wordSounds b_wordSigns b_wordKinds b_wordClasses b_counts b_endings b_endingSounds b_endingSigns b_endingClasses b_endingPrices b_prices b_stepPrices b_pairsOf b_stepCosts o_tails_1028 o_leads_1028 o_leadsKnown_1028 o_listedPart_1028 o_length_1028 o_entries_1028 o_costs_1028 r_fixedValues_1028 r_heads_1028 r_rests_1028 r_known_1028 r_total_1028 r_length_1028 r_begins_1028 r_ends_1028 r_entries_1028 r_costs_1028 s_length s_letters s_breaks s_fixed v_values_1028 v_lettersRead_1028 v_columns_1028 p_now_1028 p_nowA_1028 p_next_1028 p_nextA_1028 p_low_1028 p_high_1028 p_seeds_1028 p_seedLows_1028 t_entries t_lengths t_kept m_code_1052 m_spellMany m_spellPrice m_spell m_sounds m_signs m_endSounds m_kind m_itsClass m_count m_endSign m_endClass m_endPrice m_words m_endings m_slip m_guess m_base m_steps m_pairs m_n m_fixedMany m_line m_breaks m_fixedFrom m_fixedTo m_fixedWord m_fixedEnding m_acts m_oldN m_oldFixed m_oldLine m_oldBreaks m_oldFrom m_oldTo m_oldWord m_oldEnding m_kept m_keptMany m_keptWord m_keptKind m_isRead_1052 m_isMade_1052 m_table_1052 m_reach_1052 m_next_1052 m_rest_1052 m_ahead_1052 m_parts_1052 m_total_1052 m_partFrom_1052 m_partTo_1052 m_partWord_1052 m_partEnding_1052 m_found_1052 m_from0_1052 m_kind0_1052 m_choiceWord_1052 m_choiceEnding_1052 m_choiceCost_1052 m_choices_1052 o0_1028 L sc
  else
    none
def m_L_law_1088 (x4 : Int) (a_ring : List zSv) (a_next : Int) (a_kept : Int) (b_spellingsOf : Nat → Int) (b_spellingRows : Nat → Int) (b_spellingLengths : Nat → Int) (b_spellingPrices : Nat → Int) (b_words : Int) (b_wordSounds : Nat → Int) (b_wordSigns : Nat → Int) (b_wordKinds : Nat → Int) (b_wordClasses : Nat → Int) (b_counts : Nat → Int) (b_endings : Int) (b_endingSounds : Nat → Int) (b_endingSigns : Nat → Int) (b_endingClasses : Nat → Int) (b_endingPrices : Nat → Int) (b_prices : Nat → Int) (b_stepPrices : Nat → Int) (b_pairsOf : Nat → Int) (b_stepCosts : Nat → Int) (o_tails : Nat → Int) (o_leads : Nat → Int) (o_leadsKnown : Int) (o_listedPart : Int) (o_length : Int) (o_entries : Nat → Int) (o_costs : Nat → Int) (r_fixedValues : Nat → Int) (r_heads : Nat → Int) (r_rests : Nat → Int) (r_known : Int) (r_total : Int) (r_length : Int) (r_begins : Nat → Int) (r_ends : Nat → Int) (r_entries : Nat → Int) (r_costs : Nat → Int) (s_length : Int) (s_letters : Nat → Int) (s_breaks : Nat → Int) (s_fixed : Nat → Int) (v_values : Nat → Int) (v_lettersRead : Nat → Int) (v_columns : Int) (p_now : Nat → Int) (p_nowA : Nat) (p_next : Nat → Int) (p_nextA : Nat) (p_low : Int) (p_high : Int) (p_seeds : Nat → Int) (p_seedLows : Nat → Int) (t_entries : Nat → Int) (t_lengths : Nat → Int) (t_kept : Int) (m_code : Int) (m_spellMany : Nat → Int) (m_spellPrice : Nat → Int) (m_spell : Nat → Int) (m_sounds : Nat → Int) (m_signs : Nat → Int) (m_endSounds : Nat → Int) (m_kind : Nat → Int) (m_itsClass : Nat → Int) (m_count : Nat → Int) (m_endSign : Nat → Int) (m_endClass : Nat → Int) (m_endPrice : Nat → Int) (m_words : Int) (m_endings : Int) (m_slip : Int) (m_guess : Int) (m_base : Int) (m_steps : Nat → Int) (m_pairs : Nat → Int) (m_n : Int) (m_fixedMany : Int) (m_line : Nat → Int) (m_breaks : Nat → Int) (m_fixedFrom : Nat → Int) (m_fixedTo : Nat → Int) (m_fixedWord : Nat → Int) (m_fixedEnding : Nat → Int) (m_acts : Int) (m_oldN : Nat → Int) (m_oldFixed : Nat → Int) (m_oldLine : Nat → Int) (m_oldBreaks : Nat → Int) (m_oldFrom : Nat → Int) (m_oldTo : Nat → Int) (m_oldWord : Nat → Int) (m_oldEnding : Nat → Int) (m_kept : Int) (m_keptMany : Nat → Int) (m_keptWord : Nat → Int) (m_keptKind : Nat → Int) (m_isRead : Int) (m_isMade : Int) (m_table : Nat → Int) (m_reach : Nat → Int) (m_next : Nat → Int) (m_rest : Nat → Int) (m_ahead : Nat → Int) (m_parts : Int) (m_total : Int) (m_partFrom : Nat → Int) (m_partTo : Nat → Int) (m_partWord : Nat → Int) (m_partEnding : Nat → Int) (m_found : Int) (m_from0 : Int) (m_kind0 : Int) (m_choiceWord : Nat → Int) (m_choiceEnding : Nat → Int) (m_choiceCost : Nat → Int) (m_choices : Int) (o0 : Nat → Int) (L : Nat) (sc : Nat → Int) : Option (Nat × zZ) :=
  gd (0 ≤ x4 ∧ x4 ≤ 3584) <|
  gd (0 ≤ (x4 + 1) ∧ (x4 + 1) < (L : Int)) <|
  gd (0 ≤ (x4 + 2) ∧ (x4 + 2) < (L : Int)) <|
  (m_L_choose (sc (Int.toNat (x4 + 1))) (sc (Int.toNat (x4 + 2))) a_ring a_next a_kept b_spellingsOf b_spellingRows b_spellingLengths b_spellingPrices b_words b_wordSounds b_wordKinds b_wordClasses b_counts b_endings b_endingSounds b_endingClasses b_endingPrices b_prices b_stepCosts o_tails o_leads o_leadsKnown o_listedPart o_length o_entries o_costs r_fixedValues r_heads r_rests r_known r_total r_length r_begins r_ends r_entries r_costs s_length s_letters s_breaks s_fixed v_values v_lettersRead v_columns p_now p_nowA p_next p_nextA p_low p_high p_seeds p_seedLows).bind fun (r_1101, a_ring_1101, a_next_1101, a_kept_1101, o_tails_1101, o_leads_1101, o_leadsKnown_1101, o_listedPart_1101, o_length_1101, o_entries_1101, o_costs_1101, r_fixedValues_1101, r_heads_1101, r_rests_1101, r_known_1101, r_total_1101, r_length_1101, r_begins_1101, r_ends_1101, r_entries_1101, r_costs_1101, s_breaks_1101, s_fixed_1101, v_values_1101, v_lettersRead_1101, v_columns_1101, p_now_1101, p_nowA_1101, p_next_1101, p_nextA_1101, p_low_1101, p_high_1101, p_seeds_1101, p_seedLows_1101) =>
  gd (0 ≤ (x4 + 1) ∧ (x4 + 1) < (L : Int)) <|
  gd (0 ≤ (x4 + 2) ∧ (x4 + 2) < (L : Int)) <|
  (m_X9_choose (sc (Int.toNat (x4 + 1))) (sc (Int.toNat (x4 + 2))) m_code m_spellMany m_spellPrice m_spell m_sounds m_endSounds m_kind m_itsClass m_count m_endClass m_endPrice m_words m_endings m_slip m_guess m_base m_steps m_pairs m_n m_fixedMany m_line m_breaks m_fixedFrom m_fixedTo m_fixedWord m_fixedEnding m_acts m_oldN m_oldFixed m_oldLine m_oldBreaks m_oldFrom m_oldTo m_oldWord m_oldEnding m_isRead m_isMade m_table m_reach m_next m_rest m_ahead m_parts m_total m_partFrom m_partTo m_partWord m_partEnding m_found m_from0 m_kind0 m_choiceWord m_choiceEnding m_choiceCost m_choices).bind fun (m_code_1119, m_fixedMany_1119, m_breaks_1119, m_fixedFrom_1119, m_fixedTo_1119, m_fixedWord_1119, m_fixedEnding_1119, m_acts_1119, m_oldN_1119, m_oldFixed_1119, m_oldLine_1119, m_oldBreaks_1119, m_oldFrom_1119, m_oldTo_1119, m_oldWord_1119, m_oldEnding_1119, m_isRead_1119, m_isMade_1119, m_table_1119, m_reach_1119, m_next_1119, m_rest_1119, m_ahead_1119, m_parts_1119, m_total_1119, m_partFrom_1119, m_partTo_1119, m_partWord_1119, m_partEnding_1119, m_found_1119, m_from0_1119, m_kind0_1119, m_choiceWord_1119, m_choiceEnding_1119, m_choiceCost_1119, m_choices_1119) =>
  (m_X9_thrown m_code_1119).bind fun r_1123 =>
  gd (inI r_1123) <|
  gd (inI r_1101) <|
  if r_1123 = r_1101 then
    m_L_law_1449 x4 a_ring_1101 a_next_1101 a_kept_1101 b_spellingsOf b_spellingRows b_spellingLengths b_spellingPrices b_words b_wordSounds b_wordSigns b_wordKinds b_wordClasses b_counts b_endings b_endingSounds b_endingSigns b_endingClasses b_endingPrices b_prices b_stepPrices b_pairsOf b_stepCosts o_tails_1101 o_leads_1101 o_leadsKnown_1101 o_listedPart_1101 o_length_1101 o_entries_1101 o_costs_1101 r_fixedValues_1101 r_heads_1101 r_rests_1101 r_known_1101 r_total_1101 r_length_1101 r_begins_1101 r_ends_1101 r_entries_1101 r_costs_1101 s_length s_letters s_breaks_1101 s_fixed_1101 v_values_1101 v_lettersRead_1101 v_columns_1101 p_now_1101 p_nowA_1101 p_next_1101 p_nextA_1101 p_low_1101 p_high_1101 p_seeds_1101 p_seedLows_1101 t_entries t_lengths t_kept m_code_1119 m_spellMany m_spellPrice m_spell m_sounds m_signs m_endSounds m_kind m_itsClass m_count m_endSign m_endClass m_endPrice m_words m_endings m_slip m_guess m_base m_steps m_pairs m_n m_fixedMany_1119 m_line m_breaks_1119 m_fixedFrom_1119 m_fixedTo_1119 m_fixedWord_1119 m_fixedEnding_1119 m_acts_1119 m_oldN_1119 m_oldFixed_1119 m_oldLine_1119 m_oldBreaks_1119 m_oldFrom_1119 m_oldTo_1119 m_oldWord_1119 m_oldEnding_1119 m_kept m_keptMany m_keptWord m_keptKind m_isRead_1119 m_isMade_1119 m_table_1119 m_reach_1119 m_next_1119 m_rest_1119 m_ahead_1119 m_parts_1119 m_total_1119 m_partFrom_1119 m_partTo_1119 m_partWord_1119 m_partEnding_1119 m_found_1119 m_from0_1119 m_kind0_1119 m_choiceWord_1119 m_choiceEnding_1119 m_choiceCost_1119 m_choices_1119 o0 L sc
  else
    none
def m_L_law_1136 (x4 : Int) (a_ring : List zSv) (a_next : Int) (a_kept : Int) (b_spellingsOf : Nat → Int) (b_spellingRows : Nat → Int) (b_spellingLengths : Nat → Int) (b_spellingPrices : Nat → Int) (b_words : Int) (b_wordSounds : Nat → Int) (b_wordSigns : Nat → Int) (b_wordKinds : Nat → Int) (b_wordClasses : Nat → Int) (b_counts : Nat → Int) (b_endings : Int) (b_endingSounds : Nat → Int) (b_endingSigns : Nat → Int) (b_endingClasses : Nat → Int) (b_endingPrices : Nat → Int) (b_prices : Nat → Int) (b_stepPrices : Nat → Int) (b_pairsOf : Nat → Int) (b_stepCosts : Nat → Int) (o_tails : Nat → Int) (o_leads : Nat → Int) (o_leadsKnown : Int) (o_listedPart : Int) (o_length : Int) (o_entries : Nat → Int) (o_costs : Nat → Int) (r_fixedValues : Nat → Int) (r_heads : Nat → Int) (r_rests : Nat → Int) (r_known : Int) (r_total : Int) (r_length : Int) (r_begins : Nat → Int) (r_ends : Nat → Int) (r_entries : Nat → Int) (r_costs : Nat → Int) (s_length : Int) (s_letters : Nat → Int) (s_breaks : Nat → Int) (s_fixed : Nat → Int) (v_values : Nat → Int) (v_lettersRead : Nat → Int) (v_columns : Int) (p_now : Nat → Int) (p_nowA : Nat) (p_next : Nat → Int) (p_nextA : Nat) (p_low : Int) (p_high : Int) (p_seeds : Nat → Int) (p_seedLows : Nat → Int) (t_entries : Nat → Int) (t_lengths : Nat → Int) (t_kept : Int) (m_code : Int) (m_spellMany : Nat → Int) (m_spellPrice : Nat → Int) (m_spell : Nat → Int) (m_sounds : Nat → Int) (m_signs : Nat → Int) (m_endSounds : Nat → Int) (m_kind : Nat → Int) (m_itsClass : Nat → Int) (m_count : Nat → Int) (m_endSign : Nat → Int) (m_endClass : Nat → Int) (m_endPrice : Nat → Int) (m_words : Int) (m_endings : Int) (m_slip : Int) (m_guess : Int) (m_base : Int) (m_steps : Nat → Int) (m_pairs : Nat → Int) (m_n : Int) (m_fixedMany : Int) (m_line : Nat → Int) (m_breaks : Nat → Int) (m_fixedFrom : Nat → Int) (m_fixedTo : Nat → Int) (m_fixedWord : Nat → Int) (m_fixedEnding : Nat → Int) (m_acts : Int) (m_oldN : Nat → Int) (m_oldFixed : Nat → Int) (m_oldLine : Nat → Int) (m_oldBreaks : Nat → Int) (m_oldFrom : Nat → Int) (m_oldTo : Nat → Int) (m_oldWord : Nat → Int) (m_oldEnding : Nat → Int) (m_kept : Int) (m_keptMany : Nat → Int) (m_keptWord : Nat → Int) (m_keptKind : Nat → Int) (m_isRead : Int) (m_isMade : Int) (m_table : Nat → Int) (m_reach : Nat → Int) (m_next : Nat → Int) (m_rest : Nat → Int) (m_ahead : Nat → Int) (m_parts : Int) (m_total : Int) (m_partFrom : Nat → Int) (m_partTo : Nat → Int) (m_partWord : Nat → Int) (m_partEnding : Nat → Int) (m_found : Int) (m_from0 : Int) (m_kind0 : Int) (m_choiceWord : Nat → Int) (m_choiceEnding : Nat → Int) (m_choiceCost : Nat → Int) (m_choices : Int) (o0 : Nat → Int) (L : Nat) (sc : Nat → Int) : Option (Nat × zZ) :=
  gd (0 ≤ x4 ∧ x4 ≤ 3584) <|
  gd (0 ≤ (x4 + 1) ∧ (x4 + 1) < (L : Int)) <|
  gd (0 ≤ (x4 + 2) ∧ (x4 + 2) < (L : Int)) <|
  (m_L_setBreak (sc (Int.toNat (x4 + 1))) (sc (Int.toNat (x4 + 2))) a_ring a_next a_kept o_leadsKnown o_listedPart r_known s_length s_letters s_breaks s_fixed o0).bind fun (r_1150, o0_1150, a_ring_1150, a_next_1150, a_kept_1150, o_leadsKnown_1150, o_listedPart_1150, r_known_1150, s_breaks_1150, s_fixed_1150) =>
  gd (0 ≤ (x4 + 1) ∧ (x4 + 1) < (L : Int)) <|
  gd (0 ≤ (x4 + 2) ∧ (x4 + 2) < (L : Int)) <|
  (m_X9_setBreak (sc (Int.toNat (x4 + 1))) (sc (Int.toNat (x4 + 2))) m_code m_n m_fixedMany m_line m_breaks m_fixedFrom m_fixedTo m_fixedWord m_fixedEnding m_acts m_oldN m_oldFixed m_oldLine m_oldBreaks m_oldFrom m_oldTo m_oldWord m_oldEnding m_isRead).bind fun (r_1168, m_code_1168, m_fixedMany_1168, m_breaks_1168, m_fixedFrom_1168, m_fixedTo_1168, m_fixedWord_1168, m_fixedEnding_1168, m_acts_1168, m_oldN_1168, m_oldFixed_1168, m_oldLine_1168, m_oldBreaks_1168, m_oldFrom_1168, m_oldTo_1168, m_oldWord_1168, m_oldEnding_1168, m_isRead_1168) =>
  (m_X9_thrown m_code_1168).bind fun r_1174 =>
  gd (inI r_1174) <|
  gd (inI r_1150) <|
  if r_1174 = r_1150 then
    if r_1150 = 0 then
      gd (inI r_1168) <|
      gd (inL (o0_1150 (Int.toNat 0))) <|
      gd (inL r_1168) <|
      if (o0_1150 (Int.toNat 0)) = r_1168 then
        m_L_law_1449 x4 a_ring_1150 a_next_1150 a_kept_1150 b_spellingsOf b_spellingRows b_spellingLengths b_spellingPrices b_words b_wordSounds b_wordSigns b_wordKinds b_wordClasses b_counts b_endings b_endingSounds b_endingSigns b_endingClasses b_endingPrices b_prices b_stepPrices b_pairsOf b_stepCosts o_tails o_leads o_leadsKnown_1150 o_listedPart_1150 o_length o_entries o_costs r_fixedValues r_heads r_rests r_known_1150 r_total r_length r_begins r_ends r_entries r_costs s_length s_letters s_breaks_1150 s_fixed_1150 v_values v_lettersRead v_columns p_now p_nowA p_next p_nextA p_low p_high p_seeds p_seedLows t_entries t_lengths t_kept m_code_1168 m_spellMany m_spellPrice m_spell m_sounds m_signs m_endSounds m_kind m_itsClass m_count m_endSign m_endClass m_endPrice m_words m_endings m_slip m_guess m_base m_steps m_pairs m_n m_fixedMany_1168 m_line m_breaks_1168 m_fixedFrom_1168 m_fixedTo_1168 m_fixedWord_1168 m_fixedEnding_1168 m_acts_1168 m_oldN_1168 m_oldFixed_1168 m_oldLine_1168 m_oldBreaks_1168 m_oldFrom_1168 m_oldTo_1168 m_oldWord_1168 m_oldEnding_1168 m_kept m_keptMany m_keptWord m_keptKind m_isRead_1168 m_isMade m_table m_reach m_next m_rest m_ahead m_parts m_total m_partFrom m_partTo m_partWord m_partEnding m_found m_from0 m_kind0 m_choiceWord m_choiceEnding m_choiceCost m_choices o0_1150 L sc
      else
        none
    else
      m_L_law_1449 x4 a_ring_1150 a_next_1150 a_kept_1150 b_spellingsOf b_spellingRows b_spellingLengths b_spellingPrices b_words b_wordSounds b_wordSigns b_wordKinds b_wordClasses b_counts b_endings b_endingSounds b_endingSigns b_endingClasses b_endingPrices b_prices b_stepPrices b_pairsOf b_stepCosts o_tails o_leads o_leadsKnown_1150 o_listedPart_1150 o_length o_entries o_costs r_fixedValues r_heads r_rests r_known_1150 r_total r_length r_begins r_ends r_entries r_costs s_length s_letters s_breaks_1150 s_fixed_1150 v_values v_lettersRead v_columns p_now p_nowA p_next p_nextA p_low p_high p_seeds p_seedLows t_entries t_lengths t_kept m_code_1168 m_spellMany m_spellPrice m_spell m_sounds m_signs m_endSounds m_kind m_itsClass m_count m_endSign m_endClass m_endPrice m_words m_endings m_slip m_guess m_base m_steps m_pairs m_n m_fixedMany_1168 m_line m_breaks_1168 m_fixedFrom_1168 m_fixedTo_1168 m_fixedWord_1168 m_fixedEnding_1168 m_acts_1168 m_oldN_1168 m_oldFixed_1168 m_oldLine_1168 m_oldBreaks_1168 m_oldFrom_1168 m_oldTo_1168 m_oldWord_1168 m_oldEnding_1168 m_kept m_keptMany m_keptWord m_keptKind m_isRead_1168 m_isMade m_table m_reach m_next m_rest m_ahead m_parts m_total m_partFrom m_partTo m_partWord m_partEnding m_found m_from0 m_kind0 m_choiceWord m_choiceEnding m_choiceCost m_choices o0_1150 L sc
  else
    none
def m_L_law_1204 (x4 : Int) (a_ring : List zSv) (a_next : Int) (a_kept : Int) (b_spellingsOf : Nat → Int) (b_spellingRows : Nat → Int) (b_spellingLengths : Nat → Int) (b_spellingPrices : Nat → Int) (b_words : Int) (b_wordSounds : Nat → Int) (b_wordSigns : Nat → Int) (b_wordKinds : Nat → Int) (b_wordClasses : Nat → Int) (b_counts : Nat → Int) (b_endings : Int) (b_endingSounds : Nat → Int) (b_endingSigns : Nat → Int) (b_endingClasses : Nat → Int) (b_endingPrices : Nat → Int) (b_prices : Nat → Int) (b_stepPrices : Nat → Int) (b_pairsOf : Nat → Int) (b_stepCosts : Nat → Int) (o_tails : Nat → Int) (o_leads : Nat → Int) (o_leadsKnown : Int) (o_listedPart : Int) (o_length : Int) (o_entries : Nat → Int) (o_costs : Nat → Int) (r_fixedValues : Nat → Int) (r_heads : Nat → Int) (r_rests : Nat → Int) (r_known : Int) (r_total : Int) (r_length : Int) (r_begins : Nat → Int) (r_ends : Nat → Int) (r_entries : Nat → Int) (r_costs : Nat → Int) (s_length : Int) (s_letters : Nat → Int) (s_breaks : Nat → Int) (s_fixed : Nat → Int) (v_values : Nat → Int) (v_lettersRead : Nat → Int) (v_columns : Int) (p_now : Nat → Int) (p_nowA : Nat) (p_next : Nat → Int) (p_nextA : Nat) (p_low : Int) (p_high : Int) (p_seeds : Nat → Int) (p_seedLows : Nat → Int) (t_entries : Nat → Int) (t_lengths : Nat → Int) (t_kept : Int) (m_code : Int) (m_spellMany : Nat → Int) (m_spellPrice : Nat → Int) (m_spell : Nat → Int) (m_sounds : Nat → Int) (m_signs : Nat → Int) (m_endSounds : Nat → Int) (m_kind : Nat → Int) (m_itsClass : Nat → Int) (m_count : Nat → Int) (m_endSign : Nat → Int) (m_endClass : Nat → Int) (m_endPrice : Nat → Int) (m_words : Int) (m_endings : Int) (m_slip : Int) (m_guess : Int) (m_base : Int) (m_steps : Nat → Int) (m_pairs : Nat → Int) (m_n : Int) (m_fixedMany : Int) (m_line : Nat → Int) (m_breaks : Nat → Int) (m_fixedFrom : Nat → Int) (m_fixedTo : Nat → Int) (m_fixedWord : Nat → Int) (m_fixedEnding : Nat → Int) (m_acts : Int) (m_oldN : Nat → Int) (m_oldFixed : Nat → Int) (m_oldLine : Nat → Int) (m_oldBreaks : Nat → Int) (m_oldFrom : Nat → Int) (m_oldTo : Nat → Int) (m_oldWord : Nat → Int) (m_oldEnding : Nat → Int) (m_kept : Int) (m_keptMany : Nat → Int) (m_keptWord : Nat → Int) (m_keptKind : Nat → Int) (m_isRead : Int) (m_isMade : Int) (m_table : Nat → Int) (m_reach : Nat → Int) (m_next : Nat → Int) (m_rest : Nat → Int) (m_ahead : Nat → Int) (m_parts : Int) (m_total : Int) (m_partFrom : Nat → Int) (m_partTo : Nat → Int) (m_partWord : Nat → Int) (m_partEnding : Nat → Int) (m_found : Int) (m_from0 : Int) (m_kind0 : Int) (m_choiceWord : Nat → Int) (m_choiceEnding : Nat → Int) (m_choiceCost : Nat → Int) (m_choices : Int) (o0 : Nat → Int) (L : Nat) (sc : Nat → Int) : Option (Nat × zZ) :=
  gd (0 ≤ x4 ∧ x4 ≤ 3584) <|
  (m_X8_free a_ring a_next a_kept o_leadsKnown o_listedPart r_known s_length s_letters s_breaks s_fixed).bind fun (r_1205, a_ring_1205, a_next_1205, a_kept_1205, o_leadsKnown_1205, o_listedPart_1205, r_known_1205, s_breaks_1205, s_fixed_1205) =>
  (m_X9_free m_code m_n m_fixedMany m_line m_breaks m_fixedFrom m_fixedTo m_fixedWord m_fixedEnding m_acts m_oldN m_oldFixed m_oldLine m_oldBreaks m_oldFrom m_oldTo m_oldWord m_oldEnding m_isRead).bind fun (r_1209, m_code_1209, m_fixedMany_1209, m_breaks_1209, m_acts_1209, m_oldN_1209, m_oldFixed_1209, m_oldLine_1209, m_oldBreaks_1209, m_oldFrom_1209, m_oldTo_1209, m_oldWord_1209, m_oldEnding_1209, m_isRead_1209) =>
  gd (inI r_1205) <|
  gd (inI r_1209) <|
  if r_1205 = r_1209 then
    m_L_law_1449 x4 a_ring_1205 a_next_1205 a_kept_1205 b_spellingsOf b_spellingRows b_spellingLengths b_spellingPrices b_words b_wordSounds b_wordSigns b_wordKinds b_wordClasses b_counts b_endings b_endingSounds b_endingSigns b_endingClasses b_endingPrices b_prices b_stepPrices b_pairsOf b_stepCosts o_tails o_leads o_leadsKnown_1205 o_listedPart_1205 o_length o_entries o_costs r_fixedValues r_heads r_rests r_known_1205 r_total r_length r_begins r_ends r_entries r_costs s_length s_letters s_breaks_1205 s_fixed_1205 v_values v_lettersRead v_columns p_now p_nowA p_next p_nextA p_low p_high p_seeds p_seedLows t_entries t_lengths t_kept m_code_1209 m_spellMany m_spellPrice m_spell m_sounds m_signs m_endSounds m_kind m_itsClass m_count m_endSign m_endClass m_endPrice m_words m_endings m_slip m_guess m_base m_steps m_pairs m_n m_fixedMany_1209 m_line m_breaks_1209 m_fixedFrom m_fixedTo m_fixedWord m_fixedEnding m_acts_1209 m_oldN_1209 m_oldFixed_1209 m_oldLine_1209 m_oldBreaks_1209 m_oldFrom_1209 m_oldTo_1209 m_oldWord_1209 m_oldEnding_1209 m_kept m_keptMany m_keptWord m_keptKind m_isRead_1209 m_isMade m_table m_reach m_next m_rest m_ahead m_parts m_total m_partFrom m_partTo m_partWord m_partEnding m_found m_from0 m_kind0 m_choiceWord m_choiceEnding m_choiceCost m_choices o0 L sc
  else
    none
def m_L_law_1217 (x4 : Int) (a_ring : List zSv) (a_next : Int) (a_kept : Int) (b_spellingsOf : Nat → Int) (b_spellingRows : Nat → Int) (b_spellingLengths : Nat → Int) (b_spellingPrices : Nat → Int) (b_words : Int) (b_wordSounds : Nat → Int) (b_wordSigns : Nat → Int) (b_wordKinds : Nat → Int) (b_wordClasses : Nat → Int) (b_counts : Nat → Int) (b_endings : Int) (b_endingSounds : Nat → Int) (b_endingSigns : Nat → Int) (b_endingClasses : Nat → Int) (b_endingPrices : Nat → Int) (b_prices : Nat → Int) (b_stepPrices : Nat → Int) (b_pairsOf : Nat → Int) (b_stepCosts : Nat → Int) (o_tails : Nat → Int) (o_leads : Nat → Int) (o_leadsKnown : Int) (o_listedPart : Int) (o_length : Int) (o_entries : Nat → Int) (o_costs : Nat → Int) (r_fixedValues : Nat → Int) (r_heads : Nat → Int) (r_rests : Nat → Int) (r_known : Int) (r_total : Int) (r_length : Int) (r_begins : Nat → Int) (r_ends : Nat → Int) (r_entries : Nat → Int) (r_costs : Nat → Int) (s_length : Int) (s_letters : Nat → Int) (s_breaks : Nat → Int) (s_fixed : Nat → Int) (v_values : Nat → Int) (v_lettersRead : Nat → Int) (v_columns : Int) (p_now : Nat → Int) (p_nowA : Nat) (p_next : Nat → Int) (p_nextA : Nat) (p_low : Int) (p_high : Int) (p_seeds : Nat → Int) (p_seedLows : Nat → Int) (t_entries : Nat → Int) (t_lengths : Nat → Int) (t_kept : Int) (m_code : Int) (m_spellMany : Nat → Int) (m_spellPrice : Nat → Int) (m_spell : Nat → Int) (m_sounds : Nat → Int) (m_signs : Nat → Int) (m_endSounds : Nat → Int) (m_kind : Nat → Int) (m_itsClass : Nat → Int) (m_count : Nat → Int) (m_endSign : Nat → Int) (m_endClass : Nat → Int) (m_endPrice : Nat → Int) (m_words : Int) (m_endings : Int) (m_slip : Int) (m_guess : Int) (m_base : Int) (m_steps : Nat → Int) (m_pairs : Nat → Int) (m_n : Int) (m_fixedMany : Int) (m_line : Nat → Int) (m_breaks : Nat → Int) (m_fixedFrom : Nat → Int) (m_fixedTo : Nat → Int) (m_fixedWord : Nat → Int) (m_fixedEnding : Nat → Int) (m_acts : Int) (m_oldN : Nat → Int) (m_oldFixed : Nat → Int) (m_oldLine : Nat → Int) (m_oldBreaks : Nat → Int) (m_oldFrom : Nat → Int) (m_oldTo : Nat → Int) (m_oldWord : Nat → Int) (m_oldEnding : Nat → Int) (m_kept : Int) (m_keptMany : Nat → Int) (m_keptWord : Nat → Int) (m_keptKind : Nat → Int) (m_isRead : Int) (m_isMade : Int) (m_table : Nat → Int) (m_reach : Nat → Int) (m_next : Nat → Int) (m_rest : Nat → Int) (m_ahead : Nat → Int) (m_parts : Int) (m_total : Int) (m_partFrom : Nat → Int) (m_partTo : Nat → Int) (m_partWord : Nat → Int) (m_partEnding : Nat → Int) (m_found : Int) (m_from0 : Int) (m_kind0 : Int) (m_choiceWord : Nat → Int) (m_choiceEnding : Nat → Int) (m_choiceCost : Nat → Int) (m_choices : Int) (o0 : Nat → Int) (L : Nat) (sc : Nat → Int) : Option (Nat × zZ) :=
  gd (0 ≤ x4 ∧ x4 ≤ 3584) <|
  (m_X8_empty a_ring a_next a_kept o_leadsKnown o_listedPart r_known s_length s_letters s_breaks s_fixed).bind fun (r_1218, a_ring_1218, a_next_1218, a_kept_1218, o_leadsKnown_1218, o_listedPart_1218, r_known_1218, s_length_1218, s_breaks_1218, s_fixed_1218) =>
  (m_X9_empty m_code m_n m_fixedMany m_line m_breaks m_fixedFrom m_fixedTo m_fixedWord m_fixedEnding m_acts m_oldN m_oldFixed m_oldLine m_oldBreaks m_oldFrom m_oldTo m_oldWord m_oldEnding m_isRead m_isMade).bind fun (r_1222, m_code_1222, m_n_1222, m_fixedMany_1222, m_breaks_1222, m_acts_1222, m_oldN_1222, m_oldFixed_1222, m_oldLine_1222, m_oldBreaks_1222, m_oldFrom_1222, m_oldTo_1222, m_oldWord_1222, m_oldEnding_1222, m_isRead_1222, m_isMade_1222) =>
  gd (inI r_1218) <|
  gd (inI r_1222) <|
  if r_1218 = r_1222 then
    m_L_law_1449 x4 a_ring_1218 a_next_1218 a_kept_1218 b_spellingsOf b_spellingRows b_spellingLengths b_spellingPrices b_words b_wordSounds b_wordSigns b_wordKinds b_wordClasses b_counts b_endings b_endingSounds b_endingSigns b_endingClasses b_endingPrices b_prices b_stepPrices b_pairsOf b_stepCosts o_tails o_leads o_leadsKnown_1218 o_listedPart_1218 o_length o_entries o_costs r_fixedValues r_heads r_rests r_known_1218 r_total r_length r_begins r_ends r_entries r_costs s_length_1218 s_letters s_breaks_1218 s_fixed_1218 v_values v_lettersRead v_columns p_now p_nowA p_next p_nextA p_low p_high p_seeds p_seedLows t_entries t_lengths t_kept m_code_1222 m_spellMany m_spellPrice m_spell m_sounds m_signs m_endSounds m_kind m_itsClass m_count m_endSign m_endClass m_endPrice m_words m_endings m_slip m_guess m_base m_steps m_pairs m_n_1222 m_fixedMany_1222 m_line m_breaks_1222 m_fixedFrom m_fixedTo m_fixedWord m_fixedEnding m_acts_1222 m_oldN_1222 m_oldFixed_1222 m_oldLine_1222 m_oldBreaks_1222 m_oldFrom_1222 m_oldTo_1222 m_oldWord_1222 m_oldEnding_1222 m_kept m_keptMany m_keptWord m_keptKind m_isRead_1222 m_isMade_1222 m_table m_reach m_next m_rest m_ahead m_parts m_total m_partFrom m_partTo m_partWord m_partEnding m_found m_from0 m_kind0 m_choiceWord m_choiceEnding m_choiceCost m_choices o0 L sc
  else
    none
def m_L_law_1230 (x4 : Int) (a_ring : List zSv) (a_next : Int) (a_kept : Int) (b_spellingsOf : Nat → Int) (b_spellingRows : Nat → Int) (b_spellingLengths : Nat → Int) (b_spellingPrices : Nat → Int) (b_words : Int) (b_wordSounds : Nat → Int) (b_wordSigns : Nat → Int) (b_wordKinds : Nat → Int) (b_wordClasses : Nat → Int) (b_counts : Nat → Int) (b_endings : Int) (b_endingSounds : Nat → Int) (b_endingSigns : Nat → Int) (b_endingClasses : Nat → Int) (b_endingPrices : Nat → Int) (b_prices : Nat → Int) (b_stepPrices : Nat → Int) (b_pairsOf : Nat → Int) (b_stepCosts : Nat → Int) (o_tails : Nat → Int) (o_leads : Nat → Int) (o_leadsKnown : Int) (o_listedPart : Int) (o_length : Int) (o_entries : Nat → Int) (o_costs : Nat → Int) (r_fixedValues : Nat → Int) (r_heads : Nat → Int) (r_rests : Nat → Int) (r_known : Int) (r_total : Int) (r_length : Int) (r_begins : Nat → Int) (r_ends : Nat → Int) (r_entries : Nat → Int) (r_costs : Nat → Int) (s_length : Int) (s_letters : Nat → Int) (s_breaks : Nat → Int) (s_fixed : Nat → Int) (v_values : Nat → Int) (v_lettersRead : Nat → Int) (v_columns : Int) (p_now : Nat → Int) (p_nowA : Nat) (p_next : Nat → Int) (p_nextA : Nat) (p_low : Int) (p_high : Int) (p_seeds : Nat → Int) (p_seedLows : Nat → Int) (t_entries : Nat → Int) (t_lengths : Nat → Int) (t_kept : Int) (m_code : Int) (m_spellMany : Nat → Int) (m_spellPrice : Nat → Int) (m_spell : Nat → Int) (m_sounds : Nat → Int) (m_signs : Nat → Int) (m_endSounds : Nat → Int) (m_kind : Nat → Int) (m_itsClass : Nat → Int) (m_count : Nat → Int) (m_endSign : Nat → Int) (m_endClass : Nat → Int) (m_endPrice : Nat → Int) (m_words : Int) (m_endings : Int) (m_slip : Int) (m_guess : Int) (m_base : Int) (m_steps : Nat → Int) (m_pairs : Nat → Int) (m_n : Int) (m_fixedMany : Int) (m_line : Nat → Int) (m_breaks : Nat → Int) (m_fixedFrom : Nat → Int) (m_fixedTo : Nat → Int) (m_fixedWord : Nat → Int) (m_fixedEnding : Nat → Int) (m_acts : Int) (m_oldN : Nat → Int) (m_oldFixed : Nat → Int) (m_oldLine : Nat → Int) (m_oldBreaks : Nat → Int) (m_oldFrom : Nat → Int) (m_oldTo : Nat → Int) (m_oldWord : Nat → Int) (m_oldEnding : Nat → Int) (m_kept : Int) (m_keptMany : Nat → Int) (m_keptWord : Nat → Int) (m_keptKind : Nat → Int) (m_isRead : Int) (m_isMade : Int) (m_table : Nat → Int) (m_reach : Nat → Int) (m_next : Nat → Int) (m_rest : Nat → Int) (m_ahead : Nat → Int) (m_parts : Int) (m_total : Int) (m_partFrom : Nat → Int) (m_partTo : Nat → Int) (m_partWord : Nat → Int) (m_partEnding : Nat → Int) (m_found : Int) (m_from0 : Int) (m_kind0 : Int) (m_choiceWord : Nat → Int) (m_choiceEnding : Nat → Int) (m_choiceCost : Nat → Int) (m_choices : Int) (o0 : Nat → Int) (L : Nat) (sc : Nat → Int) : Option (Nat × zZ) :=
  gd (0 ≤ x4 ∧ x4 ≤ 3584) <|
  (m_X8_back a_ring a_next a_kept o_leadsKnown o_listedPart r_known s_length s_letters s_breaks s_fixed).bind fun (r_1231, a_next_1231, a_kept_1231, o_leadsKnown_1231, o_listedPart_1231, r_known_1231, s_length_1231, s_letters_1231, s_breaks_1231, s_fixed_1231) =>
  (m_X9_back m_code m_n m_fixedMany m_line m_breaks m_fixedFrom m_fixedTo m_fixedWord m_fixedEnding m_acts m_oldN m_oldFixed m_oldLine m_oldBreaks m_oldFrom m_oldTo m_oldWord m_oldEnding m_isRead m_isMade).bind fun (r_1235, m_code_1235, m_n_1235, m_fixedMany_1235, m_line_1235, m_breaks_1235, m_fixedFrom_1235, m_fixedTo_1235, m_fixedWord_1235, m_fixedEnding_1235, m_acts_1235, m_isRead_1235, m_isMade_1235) =>
  gd (inI r_1231) <|
  gd (inI r_1235) <|
  if r_1231 = r_1235 then
    m_L_law_1449 x4 a_ring a_next_1231 a_kept_1231 b_spellingsOf b_spellingRows b_spellingLengths b_spellingPrices b_words b_wordSounds b_wordSigns b_wordKinds b_wordClasses b_counts b_endings b_endingSounds b_endingSigns b_endingClasses b_endingPrices b_prices b_stepPrices b_pairsOf b_stepCosts o_tails o_leads o_leadsKnown_1231 o_listedPart_1231 o_length o_entries o_costs r_fixedValues r_heads r_rests r_known_1231 r_total r_length r_begins r_ends r_entries r_costs s_length_1231 s_letters_1231 s_breaks_1231 s_fixed_1231 v_values v_lettersRead v_columns p_now p_nowA p_next p_nextA p_low p_high p_seeds p_seedLows t_entries t_lengths t_kept m_code_1235 m_spellMany m_spellPrice m_spell m_sounds m_signs m_endSounds m_kind m_itsClass m_count m_endSign m_endClass m_endPrice m_words m_endings m_slip m_guess m_base m_steps m_pairs m_n_1235 m_fixedMany_1235 m_line_1235 m_breaks_1235 m_fixedFrom_1235 m_fixedTo_1235 m_fixedWord_1235 m_fixedEnding_1235 m_acts_1235 m_oldN m_oldFixed m_oldLine m_oldBreaks m_oldFrom m_oldTo m_oldWord m_oldEnding m_kept m_keptMany m_keptWord m_keptKind m_isRead_1235 m_isMade_1235 m_table m_reach m_next m_rest m_ahead m_parts m_total m_partFrom m_partTo m_partWord m_partEnding m_found m_from0 m_kind0 m_choiceWord m_choiceEnding m_choiceCost m_choices o0 L sc
  else
    none
def m_L_law_1243 (x4 : Int) (a_ring : List zSv) (a_next : Int) (a_kept : Int) (b_spellingsOf : Nat → Int) (b_spellingRows : Nat → Int) (b_spellingLengths : Nat → Int) (b_spellingPrices : Nat → Int) (b_words : Int) (b_wordSounds : Nat → Int) (b_wordSigns : Nat → Int) (b_wordKinds : Nat → Int) (b_wordClasses : Nat → Int) (b_counts : Nat → Int) (b_endings : Int) (b_endingSounds : Nat → Int) (b_endingSigns : Nat → Int) (b_endingClasses : Nat → Int) (b_endingPrices : Nat → Int) (b_prices : Nat → Int) (b_stepPrices : Nat → Int) (b_pairsOf : Nat → Int) (b_stepCosts : Nat → Int) (o_tails : Nat → Int) (o_leads : Nat → Int) (o_leadsKnown : Int) (o_listedPart : Int) (o_length : Int) (o_entries : Nat → Int) (o_costs : Nat → Int) (r_fixedValues : Nat → Int) (r_heads : Nat → Int) (r_rests : Nat → Int) (r_known : Int) (r_total : Int) (r_length : Int) (r_begins : Nat → Int) (r_ends : Nat → Int) (r_entries : Nat → Int) (r_costs : Nat → Int) (s_length : Int) (s_letters : Nat → Int) (s_breaks : Nat → Int) (s_fixed : Nat → Int) (v_values : Nat → Int) (v_lettersRead : Nat → Int) (v_columns : Int) (p_now : Nat → Int) (p_nowA : Nat) (p_next : Nat → Int) (p_nextA : Nat) (p_low : Int) (p_high : Int) (p_seeds : Nat → Int) (p_seedLows : Nat → Int) (t_entries : Nat → Int) (t_lengths : Nat → Int) (t_kept : Int) (m_code : Int) (m_spellMany : Nat → Int) (m_spellPrice : Nat → Int) (m_spell : Nat → Int) (m_sounds : Nat → Int) (m_signs : Nat → Int) (m_endSounds : Nat → Int) (m_kind : Nat → Int) (m_itsClass : Nat → Int) (m_count : Nat → Int) (m_endSign : Nat → Int) (m_endClass : Nat → Int) (m_endPrice : Nat → Int) (m_words : Int) (m_endings : Int) (m_slip : Int) (m_guess : Int) (m_base : Int) (m_steps : Nat → Int) (m_pairs : Nat → Int) (m_n : Int) (m_fixedMany : Int) (m_line : Nat → Int) (m_breaks : Nat → Int) (m_fixedFrom : Nat → Int) (m_fixedTo : Nat → Int) (m_fixedWord : Nat → Int) (m_fixedEnding : Nat → Int) (m_acts : Int) (m_oldN : Nat → Int) (m_oldFixed : Nat → Int) (m_oldLine : Nat → Int) (m_oldBreaks : Nat → Int) (m_oldFrom : Nat → Int) (m_oldTo : Nat → Int) (m_oldWord : Nat → Int) (m_oldEnding : Nat → Int) (m_kept : Int) (m_keptMany : Nat → Int) (m_keptWord : Nat → Int) (m_keptKind : Nat → Int) (m_isRead : Int) (m_isMade : Int) (m_table : Nat → Int) (m_reach : Nat → Int) (m_next : Nat → Int) (m_rest : Nat → Int) (m_ahead : Nat → Int) (m_parts : Int) (m_total : Int) (m_partFrom : Nat → Int) (m_partTo : Nat → Int) (m_partWord : Nat → Int) (m_partEnding : Nat → Int) (m_found : Int) (m_from0 : Int) (m_kind0 : Int) (m_choiceWord : Nat → Int) (m_choiceEnding : Nat → Int) (m_choiceCost : Nat → Int) (m_choices : Int) (o0 : Nat → Int) (L : Nat) (sc : Nat → Int) : Option (Nat × zZ) :=
  gd (0 ≤ x4 ∧ x4 ≤ 3584) <|
  (m_X8_take a_kept b_spellingsOf b_spellingRows b_spellingLengths b_spellingPrices b_words b_wordSounds b_wordKinds b_wordClasses b_counts b_endings b_endingSounds b_endingClasses b_endingPrices b_prices b_stepPrices b_pairsOf b_stepCosts o_leadsKnown o_listedPart r_fixedValues r_heads r_rests r_known r_total r_length r_begins r_ends r_entries r_costs s_length s_letters s_breaks s_fixed v_values v_lettersRead v_columns p_now p_nowA p_next p_nextA p_low p_high p_seeds p_seedLows t_entries t_lengths t_kept).bind fun (r_1244, a_kept_1244, b_counts_1244, b_stepPrices_1244, b_pairsOf_1244, b_stepCosts_1244, o_leadsKnown_1244, o_listedPart_1244, r_fixedValues_1244, r_heads_1244, r_rests_1244, r_known_1244, r_total_1244, r_length_1244, r_begins_1244, r_ends_1244, r_entries_1244, r_costs_1244, s_length_1244, s_breaks_1244, s_fixed_1244, v_values_1244, v_lettersRead_1244, v_columns_1244, p_now_1244, p_nowA_1244, p_next_1244, p_nextA_1244, p_low_1244, p_high_1244, p_seeds_1244, p_seedLows_1244, t_entries_1244, t_lengths_1244, t_kept_1244) =>
  (m_X9_take m_code m_spellMany m_spellPrice m_spell m_sounds m_endSounds m_kind m_itsClass m_count m_endClass m_endPrice m_words m_endings m_slip m_guess m_base m_steps m_pairs m_n m_fixedMany m_line m_breaks m_fixedFrom m_fixedTo m_fixedWord m_fixedEnding m_acts m_kept m_keptMany m_keptWord m_keptKind m_isRead m_isMade m_table m_reach m_next m_rest m_ahead m_parts m_total m_partFrom m_partTo m_partWord m_partEnding m_found m_from0 m_kind0).bind fun (r_1248, m_code_1248, m_count_1248, m_pairs_1248, m_n_1248, m_fixedMany_1248, m_breaks_1248, m_acts_1248, m_kept_1248, m_keptMany_1248, m_keptWord_1248, m_keptKind_1248, m_isRead_1248, m_isMade_1248, m_table_1248, m_reach_1248, m_next_1248, m_rest_1248, m_ahead_1248, m_parts_1248, m_total_1248, m_partFrom_1248, m_partTo_1248, m_partWord_1248, m_partEnding_1248, m_found_1248, m_from0_1248, m_kind0_1248) =>
  gd (inI r_1244) <|
  gd (inI r_1248) <|
  if r_1244 = r_1248 then
    m_L_law_1449 x4 a_ring a_next a_kept_1244 b_spellingsOf b_spellingRows b_spellingLengths b_spellingPrices b_words b_wordSounds b_wordSigns b_wordKinds b_wordClasses b_counts_1244 b_endings b_endingSounds b_endingSigns b_endingClasses b_endingPrices b_prices b_stepPrices_1244 b_pairsOf_1244 b_stepCosts_1244 o_tails o_leads o_leadsKnown_1244 o_listedPart_1244 o_length o_entries o_costs r_fixedValues_1244 r_heads_1244 r_rests_1244 r_known_1244 r_total_1244 r_length_1244 r_begins_1244 r_ends_1244 r_entries_1244 r_costs_1244 s_length_1244 s_letters s_breaks_1244 s_fixed_1244 v_values_1244 v_lettersRead_1244 v_columns_1244 p_now_1244 p_nowA_1244 p_next_1244 p_nextA_1244 p_low_1244 p_high_1244 p_seeds_1244 p_seedLows_1244 t_entries_1244 t_lengths_1244 t_kept_1244 m_code_1248 m_spellMany m_spellPrice m_spell m_sounds m_signs m_endSounds m_kind m_itsClass m_count_1248 m_endSign m_endClass m_endPrice m_words m_endings m_slip m_guess m_base m_steps m_pairs_1248 m_n_1248 m_fixedMany_1248 m_line m_breaks_1248 m_fixedFrom m_fixedTo m_fixedWord m_fixedEnding m_acts_1248 m_oldN m_oldFixed m_oldLine m_oldBreaks m_oldFrom m_oldTo m_oldWord m_oldEnding m_kept_1248 m_keptMany_1248 m_keptWord_1248 m_keptKind_1248 m_isRead_1248 m_isMade_1248 m_table_1248 m_reach_1248 m_next_1248 m_rest_1248 m_ahead_1248 m_parts_1248 m_total_1248 m_partFrom_1248 m_partTo_1248 m_partWord_1248 m_partEnding_1248 m_found_1248 m_from0_1248 m_kind0_1248 m_choiceWord m_choiceEnding m_choiceCost m_choices o0 L sc
  else
    none
def m_L_law_1256 (x4 : Int) (a_ring : List zSv) (a_next : Int) (a_kept : Int) (b_spellingsOf : Nat → Int) (b_spellingRows : Nat → Int) (b_spellingLengths : Nat → Int) (b_spellingPrices : Nat → Int) (b_words : Int) (b_wordSounds : Nat → Int) (b_wordSigns : Nat → Int) (b_wordKinds : Nat → Int) (b_wordClasses : Nat → Int) (b_counts : Nat → Int) (b_endings : Int) (b_endingSounds : Nat → Int) (b_endingSigns : Nat → Int) (b_endingClasses : Nat → Int) (b_endingPrices : Nat → Int) (b_prices : Nat → Int) (b_stepPrices : Nat → Int) (b_pairsOf : Nat → Int) (b_stepCosts : Nat → Int) (o_tails : Nat → Int) (o_leads : Nat → Int) (o_leadsKnown : Int) (o_listedPart : Int) (o_length : Int) (o_entries : Nat → Int) (o_costs : Nat → Int) (r_fixedValues : Nat → Int) (r_heads : Nat → Int) (r_rests : Nat → Int) (r_known : Int) (r_total : Int) (r_length : Int) (r_begins : Nat → Int) (r_ends : Nat → Int) (r_entries : Nat → Int) (r_costs : Nat → Int) (s_length : Int) (s_letters : Nat → Int) (s_breaks : Nat → Int) (s_fixed : Nat → Int) (v_values : Nat → Int) (v_lettersRead : Nat → Int) (v_columns : Int) (p_now : Nat → Int) (p_nowA : Nat) (p_next : Nat → Int) (p_nextA : Nat) (p_low : Int) (p_high : Int) (p_seeds : Nat → Int) (p_seedLows : Nat → Int) (t_entries : Nat → Int) (t_lengths : Nat → Int) (t_kept : Int) (m_code : Int) (m_spellMany : Nat → Int) (m_spellPrice : Nat → Int) (m_spell : Nat → Int) (m_sounds : Nat → Int) (m_signs : Nat → Int) (m_endSounds : Nat → Int) (m_kind : Nat → Int) (m_itsClass : Nat → Int) (m_count : Nat → Int) (m_endSign : Nat → Int) (m_endClass : Nat → Int) (m_endPrice : Nat → Int) (m_words : Int) (m_endings : Int) (m_slip : Int) (m_guess : Int) (m_base : Int) (m_steps : Nat → Int) (m_pairs : Nat → Int) (m_n : Int) (m_fixedMany : Int) (m_line : Nat → Int) (m_breaks : Nat → Int) (m_fixedFrom : Nat → Int) (m_fixedTo : Nat → Int) (m_fixedWord : Nat → Int) (m_fixedEnding : Nat → Int) (m_acts : Int) (m_oldN : Nat → Int) (m_oldFixed : Nat → Int) (m_oldLine : Nat → Int) (m_oldBreaks : Nat → Int) (m_oldFrom : Nat → Int) (m_oldTo : Nat → Int) (m_oldWord : Nat → Int) (m_oldEnding : Nat → Int) (m_kept : Int) (m_keptMany : Nat → Int) (m_keptWord : Nat → Int) (m_keptKind : Nat → Int) (m_isRead : Int) (m_isMade : Int) (m_table : Nat → Int) (m_reach : Nat → Int) (m_next : Nat → Int) (m_rest : Nat → Int) (m_ahead : Nat → Int) (m_parts : Int) (m_total : Int) (m_partFrom : Nat → Int) (m_partTo : Nat → Int) (m_partWord : Nat → Int) (m_partEnding : Nat → Int) (m_found : Int) (m_from0 : Int) (m_kind0 : Int) (m_choiceWord : Nat → Int) (m_choiceEnding : Nat → Int) (m_choiceCost : Nat → Int) (m_choices : Int) (o0 : Nat → Int) (L : Nat) (sc : Nat → Int) : Option (Nat × zZ) :=
  gd (0 ≤ x4 ∧ x4 ≤ 3584) <|
  (m_X8_unlearn b_wordKinds b_counts b_stepPrices b_pairsOf b_stepCosts o_leadsKnown o_listedPart r_known v_columns t_entries t_lengths t_kept).bind fun (r_1257, b_counts_1257, b_stepPrices_1257, b_pairsOf_1257, b_stepCosts_1257, o_leadsKnown_1257, o_listedPart_1257, r_known_1257, v_columns_1257, t_kept_1257) =>
  (m_X9_unlearn m_code m_count m_pairs m_kept m_keptMany m_keptWord m_keptKind m_isRead).bind fun (r_1261, m_code_1261, m_count_1261, m_pairs_1261, m_kept_1261, m_isRead_1261) =>
  gd (inI r_1257) <|
  gd (inI r_1261) <|
  if r_1257 = r_1261 then
    m_L_law_1449 x4 a_ring a_next a_kept b_spellingsOf b_spellingRows b_spellingLengths b_spellingPrices b_words b_wordSounds b_wordSigns b_wordKinds b_wordClasses b_counts_1257 b_endings b_endingSounds b_endingSigns b_endingClasses b_endingPrices b_prices b_stepPrices_1257 b_pairsOf_1257 b_stepCosts_1257 o_tails o_leads o_leadsKnown_1257 o_listedPart_1257 o_length o_entries o_costs r_fixedValues r_heads r_rests r_known_1257 r_total r_length r_begins r_ends r_entries r_costs s_length s_letters s_breaks s_fixed v_values v_lettersRead v_columns_1257 p_now p_nowA p_next p_nextA p_low p_high p_seeds p_seedLows t_entries t_lengths t_kept_1257 m_code_1261 m_spellMany m_spellPrice m_spell m_sounds m_signs m_endSounds m_kind m_itsClass m_count_1261 m_endSign m_endClass m_endPrice m_words m_endings m_slip m_guess m_base m_steps m_pairs_1261 m_n m_fixedMany m_line m_breaks m_fixedFrom m_fixedTo m_fixedWord m_fixedEnding m_acts m_oldN m_oldFixed m_oldLine m_oldBreaks m_oldFrom m_oldTo m_oldWord m_oldEnding m_kept_1261 m_keptMany m_keptWord m_keptKind m_isRead_1261 m_isMade m_table m_reach m_next m_rest m_ahead m_parts m_total m_partFrom m_partTo m_partWord m_partEnding m_found m_from0 m_kind0 m_choiceWord m_choiceEnding m_choiceCost m_choices o0 L sc
  else
    none
def m_L_law_1269 (x4 : Int) (a_ring : List zSv) (a_next : Int) (a_kept : Int) (b_spellingsOf : Nat → Int) (b_spellingRows : Nat → Int) (b_spellingLengths : Nat → Int) (b_spellingPrices : Nat → Int) (b_words : Int) (b_wordSounds : Nat → Int) (b_wordSigns : Nat → Int) (b_wordKinds : Nat → Int) (b_wordClasses : Nat → Int) (b_counts : Nat → Int) (b_endings : Int) (b_endingSounds : Nat → Int) (b_endingSigns : Nat → Int) (b_endingClasses : Nat → Int) (b_endingPrices : Nat → Int) (b_prices : Nat → Int) (b_stepPrices : Nat → Int) (b_pairsOf : Nat → Int) (b_stepCosts : Nat → Int) (o_tails : Nat → Int) (o_leads : Nat → Int) (o_leadsKnown : Int) (o_listedPart : Int) (o_length : Int) (o_entries : Nat → Int) (o_costs : Nat → Int) (r_fixedValues : Nat → Int) (r_heads : Nat → Int) (r_rests : Nat → Int) (r_known : Int) (r_total : Int) (r_length : Int) (r_begins : Nat → Int) (r_ends : Nat → Int) (r_entries : Nat → Int) (r_costs : Nat → Int) (s_length : Int) (s_letters : Nat → Int) (s_breaks : Nat → Int) (s_fixed : Nat → Int) (v_values : Nat → Int) (v_lettersRead : Nat → Int) (v_columns : Int) (p_now : Nat → Int) (p_nowA : Nat) (p_next : Nat → Int) (p_nextA : Nat) (p_low : Int) (p_high : Int) (p_seeds : Nat → Int) (p_seedLows : Nat → Int) (t_entries : Nat → Int) (t_lengths : Nat → Int) (t_kept : Int) (m_code : Int) (m_spellMany : Nat → Int) (m_spellPrice : Nat → Int) (m_spell : Nat → Int) (m_sounds : Nat → Int) (m_signs : Nat → Int) (m_endSounds : Nat → Int) (m_kind : Nat → Int) (m_itsClass : Nat → Int) (m_count : Nat → Int) (m_endSign : Nat → Int) (m_endClass : Nat → Int) (m_endPrice : Nat → Int) (m_words : Int) (m_endings : Int) (m_slip : Int) (m_guess : Int) (m_base : Int) (m_steps : Nat → Int) (m_pairs : Nat → Int) (m_n : Int) (m_fixedMany : Int) (m_line : Nat → Int) (m_breaks : Nat → Int) (m_fixedFrom : Nat → Int) (m_fixedTo : Nat → Int) (m_fixedWord : Nat → Int) (m_fixedEnding : Nat → Int) (m_acts : Int) (m_oldN : Nat → Int) (m_oldFixed : Nat → Int) (m_oldLine : Nat → Int) (m_oldBreaks : Nat → Int) (m_oldFrom : Nat → Int) (m_oldTo : Nat → Int) (m_oldWord : Nat → Int) (m_oldEnding : Nat → Int) (m_kept : Int) (m_keptMany : Nat → Int) (m_keptWord : Nat → Int) (m_keptKind : Nat → Int) (m_isRead : Int) (m_isMade : Int) (m_table : Nat → Int) (m_reach : Nat → Int) (m_next : Nat → Int) (m_rest : Nat → Int) (m_ahead : Nat → Int) (m_parts : Int) (m_total : Int) (m_partFrom : Nat → Int) (m_partTo : Nat → Int) (m_partWord : Nat → Int) (m_partEnding : Nat → Int) (m_found : Int) (m_from0 : Int) (m_kind0 : Int) (m_choiceWord : Nat → Int) (m_choiceEnding : Nat → Int) (m_choiceCost : Nat → Int) (m_choices : Int) (o0 : Nat → Int) (L : Nat) (sc : Nat → Int) : Option (Nat × zZ) :=
  gd (0 ≤ x4 ∧ x4 ≤ 3584) <|
  gd (0 ≤ (x4 + 1) ∧ (x4 + 1) < (L : Int)) <|
  (m_L_count (sc (Int.toNat (x4 + 1))) b_words b_counts o0).bind fun (r_1277, o0_1277) =>
  gd (0 ≤ (x4 + 1) ∧ (x4 + 1) < (L : Int)) <|
  (m_X9_count (sc (Int.toNat (x4 + 1))) m_code m_count m_words).bind fun (r_1289, m_code_1289) =>
  (m_X9_thrown m_code_1289).bind fun r_1295 =>
  gd (inI r_1295) <|
  gd (inI r_1277) <|
  if r_1295 = r_1277 then
    if r_1277 = 0 then
      gd (inI r_1289) <|
      gd (inL (o0_1277 (Int.toNat 0))) <|
      gd (inL r_1289) <|
      if (o0_1277 (Int.toNat 0)) = r_1289 then
        m_L_law_1449 x4 a_ring a_next a_kept b_spellingsOf b_spellingRows b_spellingLengths b_spellingPrices b_words b_wordSounds b_wordSigns b_wordKinds b_wordClasses b_counts b_endings b_endingSounds b_endingSigns b_endingClasses b_endingPrices b_prices b_stepPrices b_pairsOf b_stepCosts o_tails o_leads o_leadsKnown o_listedPart o_length o_entries o_costs r_fixedValues r_heads r_rests r_known r_total r_length r_begins r_ends r_entries r_costs s_length s_letters s_breaks s_fixed v_values v_lettersRead v_columns p_now p_nowA p_next p_nextA p_low p_high p_seeds p_seedLows t_entries t_lengths t_kept m_code_1289 m_spellMany m_spellPrice m_spell m_sounds m_signs m_endSounds m_kind m_itsClass m_count m_endSign m_endClass m_endPrice m_words m_endings m_slip m_guess m_base m_steps m_pairs m_n m_fixedMany m_line m_breaks m_fixedFrom m_fixedTo m_fixedWord m_fixedEnding m_acts m_oldN m_oldFixed m_oldLine m_oldBreaks m_oldFrom m_oldTo m_oldWord m_oldEnding m_kept m_keptMany m_keptWord m_keptKind m_isRead m_isMade m_table m_reach m_next m_rest m_ahead m_parts m_total m_partFrom m_partTo m_partWord m_partEnding m_found m_from0 m_kind0 m_choiceWord m_choiceEnding m_choiceCost m_choices o0_1277 L sc
      else
        none
    else
      m_L_law_1449 x4 a_ring a_next a_kept b_spellingsOf b_spellingRows b_spellingLengths b_spellingPrices b_words b_wordSounds b_wordSigns b_wordKinds b_wordClasses b_counts b_endings b_endingSounds b_endingSigns b_endingClasses b_endingPrices b_prices b_stepPrices b_pairsOf b_stepCosts o_tails o_leads o_leadsKnown o_listedPart o_length o_entries o_costs r_fixedValues r_heads r_rests r_known r_total r_length r_begins r_ends r_entries r_costs s_length s_letters s_breaks s_fixed v_values v_lettersRead v_columns p_now p_nowA p_next p_nextA p_low p_high p_seeds p_seedLows t_entries t_lengths t_kept m_code_1289 m_spellMany m_spellPrice m_spell m_sounds m_signs m_endSounds m_kind m_itsClass m_count m_endSign m_endClass m_endPrice m_words m_endings m_slip m_guess m_base m_steps m_pairs m_n m_fixedMany m_line m_breaks m_fixedFrom m_fixedTo m_fixedWord m_fixedEnding m_acts m_oldN m_oldFixed m_oldLine m_oldBreaks m_oldFrom m_oldTo m_oldWord m_oldEnding m_kept m_keptMany m_keptWord m_keptKind m_isRead m_isMade m_table m_reach m_next m_rest m_ahead m_parts m_total m_partFrom m_partTo m_partWord m_partEnding m_found m_from0 m_kind0 m_choiceWord m_choiceEnding m_choiceCost m_choices o0_1277 L sc
  else
    none
def m_L_law_1325 (x4 : Int) (a_ring : List zSv) (a_next : Int) (a_kept : Int) (b_spellingsOf : Nat → Int) (b_spellingRows : Nat → Int) (b_spellingLengths : Nat → Int) (b_spellingPrices : Nat → Int) (b_words : Int) (b_wordSounds : Nat → Int) (b_wordSigns : Nat → Int) (b_wordKinds : Nat → Int) (b_wordClasses : Nat → Int) (b_counts : Nat → Int) (b_endings : Int) (b_endingSounds : Nat → Int) (b_endingSigns : Nat → Int) (b_endingClasses : Nat → Int) (b_endingPrices : Nat → Int) (b_prices : Nat → Int) (b_stepPrices : Nat → Int) (b_pairsOf : Nat → Int) (b_stepCosts : Nat → Int) (o_tails : Nat → Int) (o_leads : Nat → Int) (o_leadsKnown : Int) (o_listedPart : Int) (o_length : Int) (o_entries : Nat → Int) (o_costs : Nat → Int) (r_fixedValues : Nat → Int) (r_heads : Nat → Int) (r_rests : Nat → Int) (r_known : Int) (r_total : Int) (r_length : Int) (r_begins : Nat → Int) (r_ends : Nat → Int) (r_entries : Nat → Int) (r_costs : Nat → Int) (s_length : Int) (s_letters : Nat → Int) (s_breaks : Nat → Int) (s_fixed : Nat → Int) (v_values : Nat → Int) (v_lettersRead : Nat → Int) (v_columns : Int) (p_now : Nat → Int) (p_nowA : Nat) (p_next : Nat → Int) (p_nextA : Nat) (p_low : Int) (p_high : Int) (p_seeds : Nat → Int) (p_seedLows : Nat → Int) (t_entries : Nat → Int) (t_lengths : Nat → Int) (t_kept : Int) (m_code : Int) (m_spellMany : Nat → Int) (m_spellPrice : Nat → Int) (m_spell : Nat → Int) (m_sounds : Nat → Int) (m_signs : Nat → Int) (m_endSounds : Nat → Int) (m_kind : Nat → Int) (m_itsClass : Nat → Int) (m_count : Nat → Int) (m_endSign : Nat → Int) (m_endClass : Nat → Int) (m_endPrice : Nat → Int) (m_words : Int) (m_endings : Int) (m_slip : Int) (m_guess : Int) (m_base : Int) (m_steps : Nat → Int) (m_pairs : Nat → Int) (m_n : Int) (m_fixedMany : Int) (m_line : Nat → Int) (m_breaks : Nat → Int) (m_fixedFrom : Nat → Int) (m_fixedTo : Nat → Int) (m_fixedWord : Nat → Int) (m_fixedEnding : Nat → Int) (m_acts : Int) (m_oldN : Nat → Int) (m_oldFixed : Nat → Int) (m_oldLine : Nat → Int) (m_oldBreaks : Nat → Int) (m_oldFrom : Nat → Int) (m_oldTo : Nat → Int) (m_oldWord : Nat → Int) (m_oldEnding : Nat → Int) (m_kept : Int) (m_keptMany : Nat → Int) (m_keptWord : Nat → Int) (m_keptKind : Nat → Int) (m_isRead : Int) (m_isMade : Int) (m_table : Nat → Int) (m_reach : Nat → Int) (m_next : Nat → Int) (m_rest : Nat → Int) (m_ahead : Nat → Int) (m_parts : Int) (m_total : Int) (m_partFrom : Nat → Int) (m_partTo : Nat → Int) (m_partWord : Nat → Int) (m_partEnding : Nat → Int) (m_found : Int) (m_from0 : Int) (m_kind0 : Int) (m_choiceWord : Nat → Int) (m_choiceEnding : Nat → Int) (m_choiceCost : Nat → Int) (m_choices : Int) (o0 : Nat → Int) (L : Nat) (sc : Nat → Int) : Option (Nat × zZ) :=
  gd (0 ≤ x4 ∧ x4 ≤ 3584) <|
  gd (0 ≤ (x4 + 1) ∧ (x4 + 1) < (L : Int)) <|
  gd (0 ≤ (x4 + 2) ∧ (x4 + 2) < (L : Int)) <|
  (m_L_pairs (sc (Int.toNat (x4 + 1))) (sc (Int.toNat (x4 + 2))) b_pairsOf o0).bind fun (r_1339, o0_1339) =>
  gd (0 ≤ (x4 + 1) ∧ (x4 + 1) < (L : Int)) <|
  gd (0 ≤ (x4 + 2) ∧ (x4 + 2) < (L : Int)) <|
  (m_X9_pairs (sc (Int.toNat (x4 + 1))) (sc (Int.toNat (x4 + 2))) m_code m_pairs).bind fun (r_1357, m_code_1357) =>
  (m_X9_thrown m_code_1357).bind fun r_1363 =>
  gd (inI r_1363) <|
  gd (inI r_1339) <|
  if r_1363 = r_1339 then
    if r_1339 = 0 then
      gd (inI r_1357) <|
      gd (inL (o0_1339 (Int.toNat 0))) <|
      gd (inL r_1357) <|
      if (o0_1339 (Int.toNat 0)) = r_1357 then
        m_L_law_1449 x4 a_ring a_next a_kept b_spellingsOf b_spellingRows b_spellingLengths b_spellingPrices b_words b_wordSounds b_wordSigns b_wordKinds b_wordClasses b_counts b_endings b_endingSounds b_endingSigns b_endingClasses b_endingPrices b_prices b_stepPrices b_pairsOf b_stepCosts o_tails o_leads o_leadsKnown o_listedPart o_length o_entries o_costs r_fixedValues r_heads r_rests r_known r_total r_length r_begins r_ends r_entries r_costs s_length s_letters s_breaks s_fixed v_values v_lettersRead v_columns p_now p_nowA p_next p_nextA p_low p_high p_seeds p_seedLows t_entries t_lengths t_kept m_code_1357 m_spellMany m_spellPrice m_spell m_sounds m_signs m_endSounds m_kind m_itsClass m_count m_endSign m_endClass m_endPrice m_words m_endings m_slip m_guess m_base m_steps m_pairs m_n m_fixedMany m_line m_breaks m_fixedFrom m_fixedTo m_fixedWord m_fixedEnding m_acts m_oldN m_oldFixed m_oldLine m_oldBreaks m_oldFrom m_oldTo m_oldWord m_oldEnding m_kept m_keptMany m_keptWord m_keptKind m_isRead m_isMade m_table m_reach m_next m_rest m_ahead m_parts m_total m_partFrom m_partTo m_partWord m_partEnding m_found m_from0 m_kind0 m_choiceWord m_choiceEnding m_choiceCost m_choices o0_1339 L sc
      else
        none
    else
      m_L_law_1449 x4 a_ring a_next a_kept b_spellingsOf b_spellingRows b_spellingLengths b_spellingPrices b_words b_wordSounds b_wordSigns b_wordKinds b_wordClasses b_counts b_endings b_endingSounds b_endingSigns b_endingClasses b_endingPrices b_prices b_stepPrices b_pairsOf b_stepCosts o_tails o_leads o_leadsKnown o_listedPart o_length o_entries o_costs r_fixedValues r_heads r_rests r_known r_total r_length r_begins r_ends r_entries r_costs s_length s_letters s_breaks s_fixed v_values v_lettersRead v_columns p_now p_nowA p_next p_nextA p_low p_high p_seeds p_seedLows t_entries t_lengths t_kept m_code_1357 m_spellMany m_spellPrice m_spell m_sounds m_signs m_endSounds m_kind m_itsClass m_count m_endSign m_endClass m_endPrice m_words m_endings m_slip m_guess m_base m_steps m_pairs m_n m_fixedMany m_line m_breaks m_fixedFrom m_fixedTo m_fixedWord m_fixedEnding m_acts m_oldN m_oldFixed m_oldLine m_oldBreaks m_oldFrom m_oldTo m_oldWord m_oldEnding m_kept m_keptMany m_keptWord m_keptKind m_isRead m_isMade m_table m_reach m_next m_rest m_ahead m_parts m_total m_partFrom m_partTo m_partWord m_partEnding m_found m_from0 m_kind0 m_choiceWord m_choiceEnding m_choiceCost m_choices o0_1339 L sc
  else
    none
def m_L_law_1393 (x4 : Int) (a_ring : List zSv) (a_next : Int) (a_kept : Int) (b_spellingsOf : Nat → Int) (b_spellingRows : Nat → Int) (b_spellingLengths : Nat → Int) (b_spellingPrices : Nat → Int) (b_words : Int) (b_wordSounds : Nat → Int) (b_wordSigns : Nat → Int) (b_wordKinds : Nat → Int) (b_wordClasses : Nat → Int) (b_counts : Nat → Int) (b_endings : Int) (b_endingSounds : Nat → Int) (b_endingSigns : Nat → Int) (b_endingClasses : Nat → Int) (b_endingPrices : Nat → Int) (b_prices : Nat → Int) (b_stepPrices : Nat → Int) (b_pairsOf : Nat → Int) (b_stepCosts : Nat → Int) (o_tails : Nat → Int) (o_leads : Nat → Int) (o_leadsKnown : Int) (o_listedPart : Int) (o_length : Int) (o_entries : Nat → Int) (o_costs : Nat → Int) (r_fixedValues : Nat → Int) (r_heads : Nat → Int) (r_rests : Nat → Int) (r_known : Int) (r_total : Int) (r_length : Int) (r_begins : Nat → Int) (r_ends : Nat → Int) (r_entries : Nat → Int) (r_costs : Nat → Int) (s_length : Int) (s_letters : Nat → Int) (s_breaks : Nat → Int) (s_fixed : Nat → Int) (v_values : Nat → Int) (v_lettersRead : Nat → Int) (v_columns : Int) (p_now : Nat → Int) (p_nowA : Nat) (p_next : Nat → Int) (p_nextA : Nat) (p_low : Int) (p_high : Int) (p_seeds : Nat → Int) (p_seedLows : Nat → Int) (t_entries : Nat → Int) (t_lengths : Nat → Int) (t_kept : Int) (m_code : Int) (m_spellMany : Nat → Int) (m_spellPrice : Nat → Int) (m_spell : Nat → Int) (m_sounds : Nat → Int) (m_signs : Nat → Int) (m_endSounds : Nat → Int) (m_kind : Nat → Int) (m_itsClass : Nat → Int) (m_count : Nat → Int) (m_endSign : Nat → Int) (m_endClass : Nat → Int) (m_endPrice : Nat → Int) (m_words : Int) (m_endings : Int) (m_slip : Int) (m_guess : Int) (m_base : Int) (m_steps : Nat → Int) (m_pairs : Nat → Int) (m_n : Int) (m_fixedMany : Int) (m_line : Nat → Int) (m_breaks : Nat → Int) (m_fixedFrom : Nat → Int) (m_fixedTo : Nat → Int) (m_fixedWord : Nat → Int) (m_fixedEnding : Nat → Int) (m_acts : Int) (m_oldN : Nat → Int) (m_oldFixed : Nat → Int) (m_oldLine : Nat → Int) (m_oldBreaks : Nat → Int) (m_oldFrom : Nat → Int) (m_oldTo : Nat → Int) (m_oldWord : Nat → Int) (m_oldEnding : Nat → Int) (m_kept : Int) (m_keptMany : Nat → Int) (m_keptWord : Nat → Int) (m_keptKind : Nat → Int) (m_isRead : Int) (m_isMade : Int) (m_table : Nat → Int) (m_reach : Nat → Int) (m_next : Nat → Int) (m_rest : Nat → Int) (m_ahead : Nat → Int) (m_parts : Int) (m_total : Int) (m_partFrom : Nat → Int) (m_partTo : Nat → Int) (m_partWord : Nat → Int) (m_partEnding : Nat → Int) (m_found : Int) (m_from0 : Int) (m_kind0 : Int) (m_choiceWord : Nat → Int) (m_choiceEnding : Nat → Int) (m_choiceCost : Nat → Int) (m_choices : Int) (o0 : Nat → Int) (L : Nat) (sc : Nat → Int) : Option (Nat × zZ) :=
  gd (0 ≤ x4 ∧ x4 ≤ 3584) <|
  gd (0 ≤ (x4 + 1) ∧ (x4 + 1) < (L : Int)) <|
  (m_L_about (sc (Int.toNat (x4 + 1))) a_kept b_words b_endings s_fixed t_kept o0).bind fun (r_1401, o0_1401) =>
  gd (0 ≤ (x4 + 1) ∧ (x4 + 1) < (L : Int)) <|
  (m_X9_about (sc (Int.toNat (x4 + 1))) m_code m_words m_endings m_fixedMany m_acts m_kept).bind fun (r_1413, m_code_1413) =>
  (m_X9_thrown m_code_1413).bind fun r_1419 =>
  gd (inI r_1419) <|
  gd (inI r_1401) <|
  if r_1419 = r_1401 then
    if r_1401 = 0 then
      gd (inI r_1413) <|
      gd (inL (o0_1401 (Int.toNat 0))) <|
      gd (inL r_1413) <|
      if (o0_1401 (Int.toNat 0)) = r_1413 then
        m_L_law_1449 x4 a_ring a_next a_kept b_spellingsOf b_spellingRows b_spellingLengths b_spellingPrices b_words b_wordSounds b_wordSigns b_wordKinds b_wordClasses b_counts b_endings b_endingSounds b_endingSigns b_endingClasses b_endingPrices b_prices b_stepPrices b_pairsOf b_stepCosts o_tails o_leads o_leadsKnown o_listedPart o_length o_entries o_costs r_fixedValues r_heads r_rests r_known r_total r_length r_begins r_ends r_entries r_costs s_length s_letters s_breaks s_fixed v_values v_lettersRead v_columns p_now p_nowA p_next p_nextA p_low p_high p_seeds p_seedLows t_entries t_lengths t_kept m_code_1413 m_spellMany m_spellPrice m_spell m_sounds m_signs m_endSounds m_kind m_itsClass m_count m_endSign m_endClass m_endPrice m_words m_endings m_slip m_guess m_base m_steps m_pairs m_n m_fixedMany m_line m_breaks m_fixedFrom m_fixedTo m_fixedWord m_fixedEnding m_acts m_oldN m_oldFixed m_oldLine m_oldBreaks m_oldFrom m_oldTo m_oldWord m_oldEnding m_kept m_keptMany m_keptWord m_keptKind m_isRead m_isMade m_table m_reach m_next m_rest m_ahead m_parts m_total m_partFrom m_partTo m_partWord m_partEnding m_found m_from0 m_kind0 m_choiceWord m_choiceEnding m_choiceCost m_choices o0_1401 L sc
      else
        none
    else
      m_L_law_1449 x4 a_ring a_next a_kept b_spellingsOf b_spellingRows b_spellingLengths b_spellingPrices b_words b_wordSounds b_wordSigns b_wordKinds b_wordClasses b_counts b_endings b_endingSounds b_endingSigns b_endingClasses b_endingPrices b_prices b_stepPrices b_pairsOf b_stepCosts o_tails o_leads o_leadsKnown o_listedPart o_length o_entries o_costs r_fixedValues r_heads r_rests r_known r_total r_length r_begins r_ends r_entries r_costs s_length s_letters s_breaks s_fixed v_values v_lettersRead v_columns p_now p_nowA p_next p_nextA p_low p_high p_seeds p_seedLows t_entries t_lengths t_kept m_code_1413 m_spellMany m_spellPrice m_spell m_sounds m_signs m_endSounds m_kind m_itsClass m_count m_endSign m_endClass m_endPrice m_words m_endings m_slip m_guess m_base m_steps m_pairs m_n m_fixedMany m_line m_breaks m_fixedFrom m_fixedTo m_fixedWord m_fixedEnding m_acts m_oldN m_oldFixed m_oldLine m_oldBreaks m_oldFrom m_oldTo m_oldWord m_oldEnding m_kept m_keptMany m_keptWord m_keptKind m_isRead m_isMade m_table m_reach m_next m_rest m_ahead m_parts m_total m_partFrom m_partTo m_partWord m_partEnding m_found m_from0 m_kind0 m_choiceWord m_choiceEnding m_choiceCost m_choices o0_1401 L sc
  else
    none
def m_L_law_23 (x4 : Int) (a_ring : List zSv) (a_next : Int) (a_kept : Int) (b_spellingsOf : Nat → Int) (b_spellingRows : Nat → Int) (b_spellingLengths : Nat → Int) (b_spellingPrices : Nat → Int) (b_words : Int) (b_wordSounds : Nat → Int) (b_wordSigns : Nat → Int) (b_wordKinds : Nat → Int) (b_wordClasses : Nat → Int) (b_counts : Nat → Int) (b_endings : Int) (b_endingSounds : Nat → Int) (b_endingSigns : Nat → Int) (b_endingClasses : Nat → Int) (b_endingPrices : Nat → Int) (b_prices : Nat → Int) (b_stepPrices : Nat → Int) (b_pairsOf : Nat → Int) (b_stepCosts : Nat → Int) (o_tails : Nat → Int) (o_leads : Nat → Int) (o_leadsKnown : Int) (o_listedPart : Int) (o_length : Int) (o_entries : Nat → Int) (o_costs : Nat → Int) (r_fixedValues : Nat → Int) (r_heads : Nat → Int) (r_rests : Nat → Int) (r_known : Int) (r_total : Int) (r_length : Int) (r_begins : Nat → Int) (r_ends : Nat → Int) (r_entries : Nat → Int) (r_costs : Nat → Int) (s_length : Int) (s_letters : Nat → Int) (s_breaks : Nat → Int) (s_fixed : Nat → Int) (v_values : Nat → Int) (v_lettersRead : Nat → Int) (v_columns : Int) (p_now : Nat → Int) (p_nowA : Nat) (p_next : Nat → Int) (p_nextA : Nat) (p_low : Int) (p_high : Int) (p_seeds : Nat → Int) (p_seedLows : Nat → Int) (t_entries : Nat → Int) (t_lengths : Nat → Int) (t_kept : Int) (m_code : Int) (m_spellMany : Nat → Int) (m_spellPrice : Nat → Int) (m_spell : Nat → Int) (m_sounds : Nat → Int) (m_signs : Nat → Int) (m_endSounds : Nat → Int) (m_kind : Nat → Int) (m_itsClass : Nat → Int) (m_count : Nat → Int) (m_endSign : Nat → Int) (m_endClass : Nat → Int) (m_endPrice : Nat → Int) (m_words : Int) (m_endings : Int) (m_slip : Int) (m_guess : Int) (m_base : Int) (m_steps : Nat → Int) (m_pairs : Nat → Int) (m_n : Int) (m_fixedMany : Int) (m_line : Nat → Int) (m_breaks : Nat → Int) (m_fixedFrom : Nat → Int) (m_fixedTo : Nat → Int) (m_fixedWord : Nat → Int) (m_fixedEnding : Nat → Int) (m_acts : Int) (m_oldN : Nat → Int) (m_oldFixed : Nat → Int) (m_oldLine : Nat → Int) (m_oldBreaks : Nat → Int) (m_oldFrom : Nat → Int) (m_oldTo : Nat → Int) (m_oldWord : Nat → Int) (m_oldEnding : Nat → Int) (m_kept : Int) (m_keptMany : Nat → Int) (m_keptWord : Nat → Int) (m_keptKind : Nat → Int) (m_isRead : Int) (m_isMade : Int) (m_table : Nat → Int) (m_reach : Nat → Int) (m_next : Nat → Int) (m_rest : Nat → Int) (m_ahead : Nat → Int) (m_parts : Int) (m_total : Int) (m_partFrom : Nat → Int) (m_partTo : Nat → Int) (m_partWord : Nat → Int) (m_partEnding : Nat → Int) (m_found : Int) (m_from0 : Int) (m_kind0 : Int) (m_choiceWord : Nat → Int) (m_choiceEnding : Nat → Int) (m_choiceCost : Nat → Int) (m_choices : Int) (o0 : Nat → Int) (L : Nat) (sc : Nat → Int) : Option (Nat × zZ) :=
  gd (0 ≤ x4 ∧ x4 ≤ 3584) <|
  gd (inI x4) <|
  gd (inI ((L : Int) - 7)) <|
  if ((L : Int) - 7) < x4 then
    some (1, (zfI [x4, a_next, a_kept, b_words, b_endings, o_leadsKnown, o_listedPart, o_length, r_known, r_total, r_length, s_length, v_columns, p_low, p_high, t_kept, m_code, m_words, m_endings, m_slip, m_guess, m_base, m_n, m_fixedMany, m_acts, m_kept, m_isRead, m_isMade, m_parts, m_total, m_found, m_from0, m_kind0, m_choices], zfR (b_spellingsOf :: b_spellingRows :: b_spellingLengths :: b_spellingPrices :: b_wordSounds :: b_wordSigns :: b_wordKinds :: b_wordClasses :: b_counts :: b_endingSounds :: b_endingSigns :: b_endingClasses :: b_endingPrices :: b_prices :: b_stepPrices :: b_pairsOf :: b_stepCosts :: o_tails :: o_leads :: o_entries :: o_costs :: r_fixedValues :: r_heads :: r_rests :: r_begins :: r_ends :: r_entries :: r_costs :: s_letters :: s_breaks :: s_fixed :: v_values :: v_lettersRead :: p_now :: p_next :: p_seeds :: p_seedLows :: t_entries :: t_lengths :: m_spellMany :: m_spellPrice :: m_spell :: m_sounds :: m_signs :: m_endSounds :: m_kind :: m_itsClass :: m_count :: m_endSign :: m_endClass :: m_endPrice :: m_steps :: m_pairs :: m_line :: m_breaks :: m_fixedFrom :: m_fixedTo :: m_fixedWord :: m_fixedEnding :: m_oldN :: m_oldFixed :: m_oldLine :: m_oldBreaks :: m_oldFrom :: m_oldTo :: m_oldWord :: m_oldEnding :: m_keptMany :: m_keptWord :: m_keptKind :: m_table :: m_reach :: m_next :: m_rest :: m_ahead :: m_partFrom :: m_partTo :: m_partWord :: m_partEnding :: m_choiceWord :: m_choiceEnding :: m_choiceCost :: o0 :: []), a_ring, p_nowA, p_nextA))
  else
    gd (0 ≤ x4 ∧ x4 < (L : Int)) <|
    gd (inI ((sc (Int.toNat x4)) % 32)) <|
    if ((sc (Int.toNat x4)) % 32) = 0 then
      m_L_law_148 x4 a_ring a_next a_kept b_spellingsOf b_spellingRows b_spellingLengths b_spellingPrices b_words b_wordSounds b_wordSigns b_wordKinds b_wordClasses b_counts b_endings b_endingSounds b_endingSigns b_endingClasses b_endingPrices b_prices b_stepPrices b_pairsOf b_stepCosts o_tails o_leads o_leadsKnown o_listedPart o_length o_entries o_costs r_fixedValues r_heads r_rests r_known r_total r_length r_begins r_ends r_entries r_costs s_length s_letters s_breaks s_fixed v_values v_lettersRead v_columns p_now p_nowA p_next p_nextA p_low p_high p_seeds p_seedLows t_entries t_lengths t_kept m_code m_spellMany m_spellPrice m_spell m_sounds m_signs m_endSounds m_kind m_itsClass m_count m_endSign m_endClass m_endPrice m_words m_endings m_slip m_guess m_base m_steps m_pairs m_n m_fixedMany m_line m_breaks m_fixedFrom m_fixedTo m_fixedWord m_fixedEnding m_acts m_oldN m_oldFixed m_oldLine m_oldBreaks m_oldFrom m_oldTo m_oldWord m_oldEnding m_kept m_keptMany m_keptWord m_keptKind m_isRead m_isMade m_table m_reach m_next m_rest m_ahead m_parts m_total m_partFrom m_partTo m_partWord m_partEnding m_found m_from0 m_kind0 m_choiceWord m_choiceEnding m_choiceCost m_choices o0 L sc
    else
    if ((sc (Int.toNat x4)) % 32) = 1 then
      m_L_law_260 x4 a_ring a_next a_kept b_spellingsOf b_spellingRows b_spellingLengths b_spellingPrices b_words b_wordSounds b_wordSigns b_wordKinds b_wordClasses b_counts b_endings b_endingSounds b_endingSigns b_endingClasses b_endingPrices b_prices b_stepPrices b_pairsOf b_stepCosts o_tails o_leads o_leadsKnown o_listedPart o_length o_entries o_costs r_fixedValues r_heads r_rests r_known r_total r_length r_begins r_ends r_entries r_costs s_length s_letters s_breaks s_fixed v_values v_lettersRead v_columns p_now p_nowA p_next p_nextA p_low p_high p_seeds p_seedLows t_entries t_lengths t_kept m_code m_spellMany m_spellPrice m_spell m_sounds m_signs m_endSounds m_kind m_itsClass m_count m_endSign m_endClass m_endPrice m_words m_endings m_slip m_guess m_base m_steps m_pairs m_n m_fixedMany m_line m_breaks m_fixedFrom m_fixedTo m_fixedWord m_fixedEnding m_acts m_oldN m_oldFixed m_oldLine m_oldBreaks m_oldFrom m_oldTo m_oldWord m_oldEnding m_kept m_keptMany m_keptWord m_keptKind m_isRead m_isMade m_table m_reach m_next m_rest m_ahead m_parts m_total m_partFrom m_partTo m_partWord m_partEnding m_found m_from0 m_kind0 m_choiceWord m_choiceEnding m_choiceCost m_choices o0 L sc
    else
    if ((sc (Int.toNat x4)) % 32) = 2 then
      m_L_law_418 x4 a_ring a_next a_kept b_spellingsOf b_spellingRows b_spellingLengths b_spellingPrices b_words b_wordSounds b_wordSigns b_wordKinds b_wordClasses b_counts b_endings b_endingSounds b_endingSigns b_endingClasses b_endingPrices b_prices b_stepPrices b_pairsOf b_stepCosts o_tails o_leads o_leadsKnown o_listedPart o_length o_entries o_costs r_fixedValues r_heads r_rests r_known r_total r_length r_begins r_ends r_entries r_costs s_length s_letters s_breaks s_fixed v_values v_lettersRead v_columns p_now p_nowA p_next p_nextA p_low p_high p_seeds p_seedLows t_entries t_lengths t_kept m_code m_spellMany m_spellPrice m_spell m_sounds m_signs m_endSounds m_kind m_itsClass m_count m_endSign m_endClass m_endPrice m_words m_endings m_slip m_guess m_base m_steps m_pairs m_n m_fixedMany m_line m_breaks m_fixedFrom m_fixedTo m_fixedWord m_fixedEnding m_acts m_oldN m_oldFixed m_oldLine m_oldBreaks m_oldFrom m_oldTo m_oldWord m_oldEnding m_kept m_keptMany m_keptWord m_keptKind m_isRead m_isMade m_table m_reach m_next m_rest m_ahead m_parts m_total m_partFrom m_partTo m_partWord m_partEnding m_found m_from0 m_kind0 m_choiceWord m_choiceEnding m_choiceCost m_choices o0 L sc
    else
    if ((sc (Int.toNat x4)) % 32) = 3 then
      m_L_law_542 x4 a_ring a_next a_kept b_spellingsOf b_spellingRows b_spellingLengths b_spellingPrices b_words b_wordSounds b_wordSigns b_wordKinds b_wordClasses b_counts b_endings b_endingSounds b_endingSigns b_endingClasses b_endingPrices b_prices b_stepPrices b_pairsOf b_stepCosts o_tails o_leads o_leadsKnown o_listedPart o_length o_entries o_costs r_fixedValues r_heads r_rests r_known r_total r_length r_begins r_ends r_entries r_costs s_length s_letters s_breaks s_fixed v_values v_lettersRead v_columns p_now p_nowA p_next p_nextA p_low p_high p_seeds p_seedLows t_entries t_lengths t_kept m_code m_spellMany m_spellPrice m_spell m_sounds m_signs m_endSounds m_kind m_itsClass m_count m_endSign m_endClass m_endPrice m_words m_endings m_slip m_guess m_base m_steps m_pairs m_n m_fixedMany m_line m_breaks m_fixedFrom m_fixedTo m_fixedWord m_fixedEnding m_acts m_oldN m_oldFixed m_oldLine m_oldBreaks m_oldFrom m_oldTo m_oldWord m_oldEnding m_kept m_keptMany m_keptWord m_keptKind m_isRead m_isMade m_table m_reach m_next m_rest m_ahead m_parts m_total m_partFrom m_partTo m_partWord m_partEnding m_found m_from0 m_kind0 m_choiceWord m_choiceEnding m_choiceCost m_choices o0 L sc
    else
    if ((sc (Int.toNat x4)) % 32) = 4 then
      m_L_law_610 x4 a_ring a_next a_kept b_spellingsOf b_spellingRows b_spellingLengths b_spellingPrices b_words b_wordSounds b_wordSigns b_wordKinds b_wordClasses b_counts b_endings b_endingSounds b_endingSigns b_endingClasses b_endingPrices b_prices b_stepPrices b_pairsOf b_stepCosts o_tails o_leads o_leadsKnown o_listedPart o_length o_entries o_costs r_fixedValues r_heads r_rests r_known r_total r_length r_begins r_ends r_entries r_costs s_length s_letters s_breaks s_fixed v_values v_lettersRead v_columns p_now p_nowA p_next p_nextA p_low p_high p_seeds p_seedLows t_entries t_lengths t_kept m_code m_spellMany m_spellPrice m_spell m_sounds m_signs m_endSounds m_kind m_itsClass m_count m_endSign m_endClass m_endPrice m_words m_endings m_slip m_guess m_base m_steps m_pairs m_n m_fixedMany m_line m_breaks m_fixedFrom m_fixedTo m_fixedWord m_fixedEnding m_acts m_oldN m_oldFixed m_oldLine m_oldBreaks m_oldFrom m_oldTo m_oldWord m_oldEnding m_kept m_keptMany m_keptWord m_keptKind m_isRead m_isMade m_table m_reach m_next m_rest m_ahead m_parts m_total m_partFrom m_partTo m_partWord m_partEnding m_found m_from0 m_kind0 m_choiceWord m_choiceEnding m_choiceCost m_choices o0 L sc
    else
    if ((sc (Int.toNat x4)) % 32) = 5 then
      m_L_law_690 x4 a_ring a_next a_kept b_spellingsOf b_spellingRows b_spellingLengths b_spellingPrices b_words b_wordSounds b_wordSigns b_wordKinds b_wordClasses b_counts b_endings b_endingSounds b_endingSigns b_endingClasses b_endingPrices b_prices b_stepPrices b_pairsOf b_stepCosts o_tails o_leads o_leadsKnown o_listedPart o_length o_entries o_costs r_fixedValues r_heads r_rests r_known r_total r_length r_begins r_ends r_entries r_costs s_length s_letters s_breaks s_fixed v_values v_lettersRead v_columns p_now p_nowA p_next p_nextA p_low p_high p_seeds p_seedLows t_entries t_lengths t_kept m_code m_spellMany m_spellPrice m_spell m_sounds m_signs m_endSounds m_kind m_itsClass m_count m_endSign m_endClass m_endPrice m_words m_endings m_slip m_guess m_base m_steps m_pairs m_n m_fixedMany m_line m_breaks m_fixedFrom m_fixedTo m_fixedWord m_fixedEnding m_acts m_oldN m_oldFixed m_oldLine m_oldBreaks m_oldFrom m_oldTo m_oldWord m_oldEnding m_kept m_keptMany m_keptWord m_keptKind m_isRead m_isMade m_table m_reach m_next m_rest m_ahead m_parts m_total m_partFrom m_partTo m_partWord m_partEnding m_found m_from0 m_kind0 m_choiceWord m_choiceEnding m_choiceCost m_choices o0 L sc
    else
    if ((sc (Int.toNat x4)) % 32) = 6 then
      m_L_law_746 x4 a_ring a_next a_kept b_spellingsOf b_spellingRows b_spellingLengths b_spellingPrices b_words b_wordSounds b_wordSigns b_wordKinds b_wordClasses b_counts b_endings b_endingSounds b_endingSigns b_endingClasses b_endingPrices b_prices b_stepPrices b_pairsOf b_stepCosts o_tails o_leads o_leadsKnown o_listedPart o_length o_entries o_costs r_fixedValues r_heads r_rests r_known r_total r_length r_begins r_ends r_entries r_costs s_length s_letters s_breaks s_fixed v_values v_lettersRead v_columns p_now p_nowA p_next p_nextA p_low p_high p_seeds p_seedLows t_entries t_lengths t_kept m_code m_spellMany m_spellPrice m_spell m_sounds m_signs m_endSounds m_kind m_itsClass m_count m_endSign m_endClass m_endPrice m_words m_endings m_slip m_guess m_base m_steps m_pairs m_n m_fixedMany m_line m_breaks m_fixedFrom m_fixedTo m_fixedWord m_fixedEnding m_acts m_oldN m_oldFixed m_oldLine m_oldBreaks m_oldFrom m_oldTo m_oldWord m_oldEnding m_kept m_keptMany m_keptWord m_keptKind m_isRead m_isMade m_table m_reach m_next m_rest m_ahead m_parts m_total m_partFrom m_partTo m_partWord m_partEnding m_found m_from0 m_kind0 m_choiceWord m_choiceEnding m_choiceCost m_choices o0 L sc
    else
    if ((sc (Int.toNat x4)) % 32) = 7 then
      m_L_law_802 x4 a_ring a_next a_kept b_spellingsOf b_spellingRows b_spellingLengths b_spellingPrices b_words b_wordSounds b_wordSigns b_wordKinds b_wordClasses b_counts b_endings b_endingSounds b_endingSigns b_endingClasses b_endingPrices b_prices b_stepPrices b_pairsOf b_stepCosts o_tails o_leads o_leadsKnown o_listedPart o_length o_entries o_costs r_fixedValues r_heads r_rests r_known r_total r_length r_begins r_ends r_entries r_costs s_length s_letters s_breaks s_fixed v_values v_lettersRead v_columns p_now p_nowA p_next p_nextA p_low p_high p_seeds p_seedLows t_entries t_lengths t_kept m_code m_spellMany m_spellPrice m_spell m_sounds m_signs m_endSounds m_kind m_itsClass m_count m_endSign m_endClass m_endPrice m_words m_endings m_slip m_guess m_base m_steps m_pairs m_n m_fixedMany m_line m_breaks m_fixedFrom m_fixedTo m_fixedWord m_fixedEnding m_acts m_oldN m_oldFixed m_oldLine m_oldBreaks m_oldFrom m_oldTo m_oldWord m_oldEnding m_kept m_keptMany m_keptWord m_keptKind m_isRead m_isMade m_table m_reach m_next m_rest m_ahead m_parts m_total m_partFrom m_partTo m_partWord m_partEnding m_found m_from0 m_kind0 m_choiceWord m_choiceEnding m_choiceCost m_choices o0 L sc
    else
    if ((sc (Int.toNat x4)) % 32) = 8 then
      m_L_law_815 x4 a_ring a_next a_kept b_spellingsOf b_spellingRows b_spellingLengths b_spellingPrices b_words b_wordSounds b_wordSigns b_wordKinds b_wordClasses b_counts b_endings b_endingSounds b_endingSigns b_endingClasses b_endingPrices b_prices b_stepPrices b_pairsOf b_stepCosts o_tails o_leads o_leadsKnown o_listedPart o_length o_entries o_costs r_fixedValues r_heads r_rests r_known r_total r_length r_begins r_ends r_entries r_costs s_length s_letters s_breaks s_fixed v_values v_lettersRead v_columns p_now p_nowA p_next p_nextA p_low p_high p_seeds p_seedLows t_entries t_lengths t_kept m_code m_spellMany m_spellPrice m_spell m_sounds m_signs m_endSounds m_kind m_itsClass m_count m_endSign m_endClass m_endPrice m_words m_endings m_slip m_guess m_base m_steps m_pairs m_n m_fixedMany m_line m_breaks m_fixedFrom m_fixedTo m_fixedWord m_fixedEnding m_acts m_oldN m_oldFixed m_oldLine m_oldBreaks m_oldFrom m_oldTo m_oldWord m_oldEnding m_kept m_keptMany m_keptWord m_keptKind m_isRead m_isMade m_table m_reach m_next m_rest m_ahead m_parts m_total m_partFrom m_partTo m_partWord m_partEnding m_found m_from0 m_kind0 m_choiceWord m_choiceEnding m_choiceCost m_choices o0 L sc
    else
    if ((sc (Int.toNat x4)) % 32) = 9 then
      m_L_law_828 x4 a_ring a_next a_kept b_spellingsOf b_spellingRows b_spellingLengths b_spellingPrices b_words b_wordSounds b_wordSigns b_wordKinds b_wordClasses b_counts b_endings b_endingSounds b_endingSigns b_endingClasses b_endingPrices b_prices b_stepPrices b_pairsOf b_stepCosts o_tails o_leads o_leadsKnown o_listedPart o_length o_entries o_costs r_fixedValues r_heads r_rests r_known r_total r_length r_begins r_ends r_entries r_costs s_length s_letters s_breaks s_fixed v_values v_lettersRead v_columns p_now p_nowA p_next p_nextA p_low p_high p_seeds p_seedLows t_entries t_lengths t_kept m_code m_spellMany m_spellPrice m_spell m_sounds m_signs m_endSounds m_kind m_itsClass m_count m_endSign m_endClass m_endPrice m_words m_endings m_slip m_guess m_base m_steps m_pairs m_n m_fixedMany m_line m_breaks m_fixedFrom m_fixedTo m_fixedWord m_fixedEnding m_acts m_oldN m_oldFixed m_oldLine m_oldBreaks m_oldFrom m_oldTo m_oldWord m_oldEnding m_kept m_keptMany m_keptWord m_keptKind m_isRead m_isMade m_table m_reach m_next m_rest m_ahead m_parts m_total m_partFrom m_partTo m_partWord m_partEnding m_found m_from0 m_kind0 m_choiceWord m_choiceEnding m_choiceCost m_choices o0 L sc
    else
    if ((sc (Int.toNat x4)) % 32) = 10 then
      m_L_law_896 x4 a_ring a_next a_kept b_spellingsOf b_spellingRows b_spellingLengths b_spellingPrices b_words b_wordSounds b_wordSigns b_wordKinds b_wordClasses b_counts b_endings b_endingSounds b_endingSigns b_endingClasses b_endingPrices b_prices b_stepPrices b_pairsOf b_stepCosts o_tails o_leads o_leadsKnown o_listedPart o_length o_entries o_costs r_fixedValues r_heads r_rests r_known r_total r_length r_begins r_ends r_entries r_costs s_length s_letters s_breaks s_fixed v_values v_lettersRead v_columns p_now p_nowA p_next p_nextA p_low p_high p_seeds p_seedLows t_entries t_lengths t_kept m_code m_spellMany m_spellPrice m_spell m_sounds m_signs m_endSounds m_kind m_itsClass m_count m_endSign m_endClass m_endPrice m_words m_endings m_slip m_guess m_base m_steps m_pairs m_n m_fixedMany m_line m_breaks m_fixedFrom m_fixedTo m_fixedWord m_fixedEnding m_acts m_oldN m_oldFixed m_oldLine m_oldBreaks m_oldFrom m_oldTo m_oldWord m_oldEnding m_kept m_keptMany m_keptWord m_keptKind m_isRead m_isMade m_table m_reach m_next m_rest m_ahead m_parts m_total m_partFrom m_partTo m_partWord m_partEnding m_found m_from0 m_kind0 m_choiceWord m_choiceEnding m_choiceCost m_choices o0 L sc
    else
    if ((sc (Int.toNat x4)) % 32) = 11 then
      m_L_law_952 x4 a_ring a_next a_kept b_spellingsOf b_spellingRows b_spellingLengths b_spellingPrices b_words b_wordSounds b_wordSigns b_wordKinds b_wordClasses b_counts b_endings b_endingSounds b_endingSigns b_endingClasses b_endingPrices b_prices b_stepPrices b_pairsOf b_stepCosts o_tails o_leads o_leadsKnown o_listedPart o_length o_entries o_costs r_fixedValues r_heads r_rests r_known r_total r_length r_begins r_ends r_entries r_costs s_length s_letters s_breaks s_fixed v_values v_lettersRead v_columns p_now p_nowA p_next p_nextA p_low p_high p_seeds p_seedLows t_entries t_lengths t_kept m_code m_spellMany m_spellPrice m_spell m_sounds m_signs m_endSounds m_kind m_itsClass m_count m_endSign m_endClass m_endPrice m_words m_endings m_slip m_guess m_base m_steps m_pairs m_n m_fixedMany m_line m_breaks m_fixedFrom m_fixedTo m_fixedWord m_fixedEnding m_acts m_oldN m_oldFixed m_oldLine m_oldBreaks m_oldFrom m_oldTo m_oldWord m_oldEnding m_kept m_keptMany m_keptWord m_keptKind m_isRead m_isMade m_table m_reach m_next m_rest m_ahead m_parts m_total m_partFrom m_partTo m_partWord m_partEnding m_found m_from0 m_kind0 m_choiceWord m_choiceEnding m_choiceCost m_choices o0 L sc
    else
    if ((sc (Int.toNat x4)) % 32) = 12 then
      m_L_law_1008 x4 a_ring a_next a_kept b_spellingsOf b_spellingRows b_spellingLengths b_spellingPrices b_words b_wordSounds b_wordSigns b_wordKinds b_wordClasses b_counts b_endings b_endingSounds b_endingSigns b_endingClasses b_endingPrices b_prices b_stepPrices b_pairsOf b_stepCosts o_tails o_leads o_leadsKnown o_listedPart o_length o_entries o_costs r_fixedValues r_heads r_rests r_known r_total r_length r_begins r_ends r_entries r_costs s_length s_letters s_breaks s_fixed v_values v_lettersRead v_columns p_now p_nowA p_next p_nextA p_low p_high p_seeds p_seedLows t_entries t_lengths t_kept m_code m_spellMany m_spellPrice m_spell m_sounds m_signs m_endSounds m_kind m_itsClass m_count m_endSign m_endClass m_endPrice m_words m_endings m_slip m_guess m_base m_steps m_pairs m_n m_fixedMany m_line m_breaks m_fixedFrom m_fixedTo m_fixedWord m_fixedEnding m_acts m_oldN m_oldFixed m_oldLine m_oldBreaks m_oldFrom m_oldTo m_oldWord m_oldEnding m_kept m_keptMany m_keptWord m_keptKind m_isRead m_isMade m_table m_reach m_next m_rest m_ahead m_parts m_total m_partFrom m_partTo m_partWord m_partEnding m_found m_from0 m_kind0 m_choiceWord m_choiceEnding m_choiceCost m_choices o0 L sc
    else
    if ((sc (Int.toNat x4)) % 32) = 13 then
      m_L_law_1088 x4 a_ring a_next a_kept b_spellingsOf b_spellingRows b_spellingLengths b_spellingPrices b_words b_wordSounds b_wordSigns b_wordKinds b_wordClasses b_counts b_endings b_endingSounds b_endingSigns b_endingClasses b_endingPrices b_prices b_stepPrices b_pairsOf b_stepCosts o_tails o_leads o_leadsKnown o_listedPart o_length o_entries o_costs r_fixedValues r_heads r_rests r_known r_total r_length r_begins r_ends r_entries r_costs s_length s_letters s_breaks s_fixed v_values v_lettersRead v_columns p_now p_nowA p_next p_nextA p_low p_high p_seeds p_seedLows t_entries t_lengths t_kept m_code m_spellMany m_spellPrice m_spell m_sounds m_signs m_endSounds m_kind m_itsClass m_count m_endSign m_endClass m_endPrice m_words m_endings m_slip m_guess m_base m_steps m_pairs m_n m_fixedMany m_line m_breaks m_fixedFrom m_fixedTo m_fixedWord m_fixedEnding m_acts m_oldN m_oldFixed m_oldLine m_oldBreaks m_oldFrom m_oldTo m_oldWord m_oldEnding m_kept m_keptMany m_keptWord m_keptKind m_isRead m_isMade m_table m_reach m_next m_rest m_ahead m_parts m_total m_partFrom m_partTo m_partWord m_partEnding m_found m_from0 m_kind0 m_choiceWord m_choiceEnding m_choiceCost m_choices o0 L sc
    else
    if ((sc (Int.toNat x4)) % 32) = 14 then
      m_L_law_1136 x4 a_ring a_next a_kept b_spellingsOf b_spellingRows b_spellingLengths b_spellingPrices b_words b_wordSounds b_wordSigns b_wordKinds b_wordClasses b_counts b_endings b_endingSounds b_endingSigns b_endingClasses b_endingPrices b_prices b_stepPrices b_pairsOf b_stepCosts o_tails o_leads o_leadsKnown o_listedPart o_length o_entries o_costs r_fixedValues r_heads r_rests r_known r_total r_length r_begins r_ends r_entries r_costs s_length s_letters s_breaks s_fixed v_values v_lettersRead v_columns p_now p_nowA p_next p_nextA p_low p_high p_seeds p_seedLows t_entries t_lengths t_kept m_code m_spellMany m_spellPrice m_spell m_sounds m_signs m_endSounds m_kind m_itsClass m_count m_endSign m_endClass m_endPrice m_words m_endings m_slip m_guess m_base m_steps m_pairs m_n m_fixedMany m_line m_breaks m_fixedFrom m_fixedTo m_fixedWord m_fixedEnding m_acts m_oldN m_oldFixed m_oldLine m_oldBreaks m_oldFrom m_oldTo m_oldWord m_oldEnding m_kept m_keptMany m_keptWord m_keptKind m_isRead m_isMade m_table m_reach m_next m_rest m_ahead m_parts m_total m_partFrom m_partTo m_partWord m_partEnding m_found m_from0 m_kind0 m_choiceWord m_choiceEnding m_choiceCost m_choices o0 L sc
    else
    if ((sc (Int.toNat x4)) % 32) = 15 then
      m_L_law_1204 x4 a_ring a_next a_kept b_spellingsOf b_spellingRows b_spellingLengths b_spellingPrices b_words b_wordSounds b_wordSigns b_wordKinds b_wordClasses b_counts b_endings b_endingSounds b_endingSigns b_endingClasses b_endingPrices b_prices b_stepPrices b_pairsOf b_stepCosts o_tails o_leads o_leadsKnown o_listedPart o_length o_entries o_costs r_fixedValues r_heads r_rests r_known r_total r_length r_begins r_ends r_entries r_costs s_length s_letters s_breaks s_fixed v_values v_lettersRead v_columns p_now p_nowA p_next p_nextA p_low p_high p_seeds p_seedLows t_entries t_lengths t_kept m_code m_spellMany m_spellPrice m_spell m_sounds m_signs m_endSounds m_kind m_itsClass m_count m_endSign m_endClass m_endPrice m_words m_endings m_slip m_guess m_base m_steps m_pairs m_n m_fixedMany m_line m_breaks m_fixedFrom m_fixedTo m_fixedWord m_fixedEnding m_acts m_oldN m_oldFixed m_oldLine m_oldBreaks m_oldFrom m_oldTo m_oldWord m_oldEnding m_kept m_keptMany m_keptWord m_keptKind m_isRead m_isMade m_table m_reach m_next m_rest m_ahead m_parts m_total m_partFrom m_partTo m_partWord m_partEnding m_found m_from0 m_kind0 m_choiceWord m_choiceEnding m_choiceCost m_choices o0 L sc
    else
    if ((sc (Int.toNat x4)) % 32) = 16 then
      m_L_law_1217 x4 a_ring a_next a_kept b_spellingsOf b_spellingRows b_spellingLengths b_spellingPrices b_words b_wordSounds b_wordSigns b_wordKinds b_wordClasses b_counts b_endings b_endingSounds b_endingSigns b_endingClasses b_endingPrices b_prices b_stepPrices b_pairsOf b_stepCosts o_tails o_leads o_leadsKnown o_listedPart o_length o_entries o_costs r_fixedValues r_heads r_rests r_known r_total r_length r_begins r_ends r_entries r_costs s_length s_letters s_breaks s_fixed v_values v_lettersRead v_columns p_now p_nowA p_next p_nextA p_low p_high p_seeds p_seedLows t_entries t_lengths t_kept m_code m_spellMany m_spellPrice m_spell m_sounds m_signs m_endSounds m_kind m_itsClass m_count m_endSign m_endClass m_endPrice m_words m_endings m_slip m_guess m_base m_steps m_pairs m_n m_fixedMany m_line m_breaks m_fixedFrom m_fixedTo m_fixedWord m_fixedEnding m_acts m_oldN m_oldFixed m_oldLine m_oldBreaks m_oldFrom m_oldTo m_oldWord m_oldEnding m_kept m_keptMany m_keptWord m_keptKind m_isRead m_isMade m_table m_reach m_next m_rest m_ahead m_parts m_total m_partFrom m_partTo m_partWord m_partEnding m_found m_from0 m_kind0 m_choiceWord m_choiceEnding m_choiceCost m_choices o0 L sc
    else
    if ((sc (Int.toNat x4)) % 32) = 17 then
      m_L_law_1230 x4 a_ring a_next a_kept b_spellingsOf b_spellingRows b_spellingLengths b_spellingPrices b_words b_wordSounds b_wordSigns b_wordKinds b_wordClasses b_counts b_endings b_endingSounds b_endingSigns b_endingClasses b_endingPrices b_prices b_stepPrices b_pairsOf b_stepCosts o_tails o_leads o_leadsKnown o_listedPart o_length o_entries o_costs r_fixedValues r_heads r_rests r_known r_total r_length r_begins r_ends r_entries r_costs s_length s_letters s_breaks s_fixed v_values v_lettersRead v_columns p_now p_nowA p_next p_nextA p_low p_high p_seeds p_seedLows t_entries t_lengths t_kept m_code m_spellMany m_spellPrice m_spell m_sounds m_signs m_endSounds m_kind m_itsClass m_count m_endSign m_endClass m_endPrice m_words m_endings m_slip m_guess m_base m_steps m_pairs m_n m_fixedMany m_line m_breaks m_fixedFrom m_fixedTo m_fixedWord m_fixedEnding m_acts m_oldN m_oldFixed m_oldLine m_oldBreaks m_oldFrom m_oldTo m_oldWord m_oldEnding m_kept m_keptMany m_keptWord m_keptKind m_isRead m_isMade m_table m_reach m_next m_rest m_ahead m_parts m_total m_partFrom m_partTo m_partWord m_partEnding m_found m_from0 m_kind0 m_choiceWord m_choiceEnding m_choiceCost m_choices o0 L sc
    else
    if ((sc (Int.toNat x4)) % 32) = 18 then
      m_L_law_1243 x4 a_ring a_next a_kept b_spellingsOf b_spellingRows b_spellingLengths b_spellingPrices b_words b_wordSounds b_wordSigns b_wordKinds b_wordClasses b_counts b_endings b_endingSounds b_endingSigns b_endingClasses b_endingPrices b_prices b_stepPrices b_pairsOf b_stepCosts o_tails o_leads o_leadsKnown o_listedPart o_length o_entries o_costs r_fixedValues r_heads r_rests r_known r_total r_length r_begins r_ends r_entries r_costs s_length s_letters s_breaks s_fixed v_values v_lettersRead v_columns p_now p_nowA p_next p_nextA p_low p_high p_seeds p_seedLows t_entries t_lengths t_kept m_code m_spellMany m_spellPrice m_spell m_sounds m_signs m_endSounds m_kind m_itsClass m_count m_endSign m_endClass m_endPrice m_words m_endings m_slip m_guess m_base m_steps m_pairs m_n m_fixedMany m_line m_breaks m_fixedFrom m_fixedTo m_fixedWord m_fixedEnding m_acts m_oldN m_oldFixed m_oldLine m_oldBreaks m_oldFrom m_oldTo m_oldWord m_oldEnding m_kept m_keptMany m_keptWord m_keptKind m_isRead m_isMade m_table m_reach m_next m_rest m_ahead m_parts m_total m_partFrom m_partTo m_partWord m_partEnding m_found m_from0 m_kind0 m_choiceWord m_choiceEnding m_choiceCost m_choices o0 L sc
    else
    if ((sc (Int.toNat x4)) % 32) = 19 then
      m_L_law_1256 x4 a_ring a_next a_kept b_spellingsOf b_spellingRows b_spellingLengths b_spellingPrices b_words b_wordSounds b_wordSigns b_wordKinds b_wordClasses b_counts b_endings b_endingSounds b_endingSigns b_endingClasses b_endingPrices b_prices b_stepPrices b_pairsOf b_stepCosts o_tails o_leads o_leadsKnown o_listedPart o_length o_entries o_costs r_fixedValues r_heads r_rests r_known r_total r_length r_begins r_ends r_entries r_costs s_length s_letters s_breaks s_fixed v_values v_lettersRead v_columns p_now p_nowA p_next p_nextA p_low p_high p_seeds p_seedLows t_entries t_lengths t_kept m_code m_spellMany m_spellPrice m_spell m_sounds m_signs m_endSounds m_kind m_itsClass m_count m_endSign m_endClass m_endPrice m_words m_endings m_slip m_guess m_base m_steps m_pairs m_n m_fixedMany m_line m_breaks m_fixedFrom m_fixedTo m_fixedWord m_fixedEnding m_acts m_oldN m_oldFixed m_oldLine m_oldBreaks m_oldFrom m_oldTo m_oldWord m_oldEnding m_kept m_keptMany m_keptWord m_keptKind m_isRead m_isMade m_table m_reach m_next m_rest m_ahead m_parts m_total m_partFrom m_partTo m_partWord m_partEnding m_found m_from0 m_kind0 m_choiceWord m_choiceEnding m_choiceCost m_choices o0 L sc
    else
    if ((sc (Int.toNat x4)) % 32) = 20 then
      m_L_law_1269 x4 a_ring a_next a_kept b_spellingsOf b_spellingRows b_spellingLengths b_spellingPrices b_words b_wordSounds b_wordSigns b_wordKinds b_wordClasses b_counts b_endings b_endingSounds b_endingSigns b_endingClasses b_endingPrices b_prices b_stepPrices b_pairsOf b_stepCosts o_tails o_leads o_leadsKnown o_listedPart o_length o_entries o_costs r_fixedValues r_heads r_rests r_known r_total r_length r_begins r_ends r_entries r_costs s_length s_letters s_breaks s_fixed v_values v_lettersRead v_columns p_now p_nowA p_next p_nextA p_low p_high p_seeds p_seedLows t_entries t_lengths t_kept m_code m_spellMany m_spellPrice m_spell m_sounds m_signs m_endSounds m_kind m_itsClass m_count m_endSign m_endClass m_endPrice m_words m_endings m_slip m_guess m_base m_steps m_pairs m_n m_fixedMany m_line m_breaks m_fixedFrom m_fixedTo m_fixedWord m_fixedEnding m_acts m_oldN m_oldFixed m_oldLine m_oldBreaks m_oldFrom m_oldTo m_oldWord m_oldEnding m_kept m_keptMany m_keptWord m_keptKind m_isRead m_isMade m_table m_reach m_next m_rest m_ahead m_parts m_total m_partFrom m_partTo m_partWord m_partEnding m_found m_from0 m_kind0 m_choiceWord m_choiceEnding m_choiceCost m_choices o0 L sc
    else
    if ((sc (Int.toNat x4)) % 32) = 21 then
      m_L_law_1325 x4 a_ring a_next a_kept b_spellingsOf b_spellingRows b_spellingLengths b_spellingPrices b_words b_wordSounds b_wordSigns b_wordKinds b_wordClasses b_counts b_endings b_endingSounds b_endingSigns b_endingClasses b_endingPrices b_prices b_stepPrices b_pairsOf b_stepCosts o_tails o_leads o_leadsKnown o_listedPart o_length o_entries o_costs r_fixedValues r_heads r_rests r_known r_total r_length r_begins r_ends r_entries r_costs s_length s_letters s_breaks s_fixed v_values v_lettersRead v_columns p_now p_nowA p_next p_nextA p_low p_high p_seeds p_seedLows t_entries t_lengths t_kept m_code m_spellMany m_spellPrice m_spell m_sounds m_signs m_endSounds m_kind m_itsClass m_count m_endSign m_endClass m_endPrice m_words m_endings m_slip m_guess m_base m_steps m_pairs m_n m_fixedMany m_line m_breaks m_fixedFrom m_fixedTo m_fixedWord m_fixedEnding m_acts m_oldN m_oldFixed m_oldLine m_oldBreaks m_oldFrom m_oldTo m_oldWord m_oldEnding m_kept m_keptMany m_keptWord m_keptKind m_isRead m_isMade m_table m_reach m_next m_rest m_ahead m_parts m_total m_partFrom m_partTo m_partWord m_partEnding m_found m_from0 m_kind0 m_choiceWord m_choiceEnding m_choiceCost m_choices o0 L sc
    else
    if ((sc (Int.toNat x4)) % 32) = 22 then
      m_L_law_1393 x4 a_ring a_next a_kept b_spellingsOf b_spellingRows b_spellingLengths b_spellingPrices b_words b_wordSounds b_wordSigns b_wordKinds b_wordClasses b_counts b_endings b_endingSounds b_endingSigns b_endingClasses b_endingPrices b_prices b_stepPrices b_pairsOf b_stepCosts o_tails o_leads o_leadsKnown o_listedPart o_length o_entries o_costs r_fixedValues r_heads r_rests r_known r_total r_length r_begins r_ends r_entries r_costs s_length s_letters s_breaks s_fixed v_values v_lettersRead v_columns p_now p_nowA p_next p_nextA p_low p_high p_seeds p_seedLows t_entries t_lengths t_kept m_code m_spellMany m_spellPrice m_spell m_sounds m_signs m_endSounds m_kind m_itsClass m_count m_endSign m_endClass m_endPrice m_words m_endings m_slip m_guess m_base m_steps m_pairs m_n m_fixedMany m_line m_breaks m_fixedFrom m_fixedTo m_fixedWord m_fixedEnding m_acts m_oldN m_oldFixed m_oldLine m_oldBreaks m_oldFrom m_oldTo m_oldWord m_oldEnding m_kept m_keptMany m_keptWord m_keptKind m_isRead m_isMade m_table m_reach m_next m_rest m_ahead m_parts m_total m_partFrom m_partTo m_partWord m_partEnding m_found m_from0 m_kind0 m_choiceWord m_choiceEnding m_choiceCost m_choices o0 L sc
    else
    m_L_law_1449 x4 a_ring a_next a_kept b_spellingsOf b_spellingRows b_spellingLengths b_spellingPrices b_words b_wordSounds b_wordSigns b_wordKinds b_wordClasses b_counts b_endings b_endingSounds b_endingSigns b_endingClasses b_endingPrices b_prices b_stepPrices b_pairsOf b_stepCosts o_tails o_leads o_leadsKnown o_listedPart o_length o_entries o_costs r_fixedValues r_heads r_rests r_known r_total r_length r_begins r_ends r_entries r_costs s_length s_letters s_breaks s_fixed v_values v_lettersRead v_columns p_now p_nowA p_next p_nextA p_low p_high p_seeds p_seedLows t_entries t_lengths t_kept m_code m_spellMany m_spellPrice m_spell m_sounds m_signs m_endSounds m_kind m_itsClass m_count m_endSign m_endClass m_endPrice m_words m_endings m_slip m_guess m_base m_steps m_pairs m_n m_fixedMany m_line m_breaks m_fixedFrom m_fixedTo m_fixedWord m_fixedEnding m_acts m_oldN m_oldFixed m_oldLine m_oldBreaks m_oldFrom m_oldTo m_oldWord m_oldEnding m_kept m_keptMany m_keptWord m_keptKind m_isRead m_isMade m_table m_reach m_next m_rest m_ahead m_parts m_total m_partFrom m_partTo m_partWord m_partEnding m_found m_from0 m_kind0 m_choiceWord m_choiceEnding m_choiceCost m_choices o0 L sc
def zZ0 (p_nowA p_nextA : Nat) : zZ := (zfI [0, 0, 0, 0, 0, 0, (-1), 0, 0, 0, 0, 0, 0, 0, 0, 0, 0, 0, 0, 30, 70, 100, 0, 0, 0, 0, 0, 0, 0, 0, 0, 0, 0, 0], zfR ((fun _ => 0) :: (fun _ => 0) :: (fun _ => 0) :: (fun _ => 0) :: (fun _ => 0) :: (fun _ => 0) :: (fun _ => 0) :: (fun _ => 0) :: (fun _ => 0) :: (fun _ => 0) :: (fun _ => 0) :: (fun _ => 0) :: (fun _ => 0) :: (uz (uz (uz (fun _ => 0) 0 30) 1 70) 2 100) :: (fun _ => 0) :: (fun _ => 0) :: (fun _ => 0) :: (fun _ => 0) :: (fun _ => 0) :: (fun _ => 0) :: (fun _ => 0) :: (fun _ => 0) :: (fun _ => 0) :: (fun _ => 0) :: (fun _ => 0) :: (fun _ => 0) :: (fun _ => 0) :: (fun _ => 0) :: (fun _ => 0) :: (fun _ => 0) :: (fun _ => 0) :: (fun _ => 0) :: (fun _ => 0) :: (fun _ => 0) :: (fun _ => 0) :: (fun _ => 0) :: (fun _ => 0) :: (fun _ => 0) :: (fun _ => 0) :: (fun _ => 0) :: (fun _ => 0) :: (fun _ => 0) :: (fun _ => 0) :: (fun _ => 0) :: (fun _ => 0) :: (fun _ => 0) :: (fun _ => 0) :: (fun _ => 0) :: (fun _ => 0) :: (fun _ => 0) :: (fun _ => 0) :: (fun _ => 0) :: (fun _ => 0) :: (fun _ => 0) :: (fun _ => 0) :: (fun _ => 0) :: (fun _ => 0) :: (fun _ => 0) :: (fun _ => 0) :: (fun _ => 0) :: (fun _ => 0) :: (fun _ => 0) :: (fun _ => 0) :: (fun _ => 0) :: (fun _ => 0) :: (fun _ => 0) :: (fun _ => 0) :: (fun _ => 0) :: (fun _ => 0) :: (fun _ => 0) :: (fun _ => 0) :: (fun _ => 0) :: (fun _ => 0) :: (fun _ => 0) :: (fun _ => 0) :: (fun _ => 0) :: (fun _ => 0) :: (fun _ => 0) :: (fun _ => 0) :: (fun _ => 0) :: (fun _ => 0) :: (fun _ => 0) :: (fun _ => 0) :: []), [], p_nowA, p_nextA)
def zLaw (L : Nat) (sc : Nat → Int) : zZ → Option (Nat × zZ) := fun a => m_L_law_23 (a.1 0) a.2.2.1 (a.1 1) (a.1 2) (a.2.1 0) (a.2.1 1) (a.2.1 2) (a.2.1 3) (a.1 3) (a.2.1 4) (a.2.1 5) (a.2.1 6) (a.2.1 7) (a.2.1 8) (a.1 4) (a.2.1 9) (a.2.1 10) (a.2.1 11) (a.2.1 12) (a.2.1 13) (a.2.1 14) (a.2.1 15) (a.2.1 16) (a.2.1 17) (a.2.1 18) (a.1 5) (a.1 6) (a.1 7) (a.2.1 19) (a.2.1 20) (a.2.1 21) (a.2.1 22) (a.2.1 23) (a.1 8) (a.1 9) (a.1 10) (a.2.1 24) (a.2.1 25) (a.2.1 26) (a.2.1 27) (a.1 11) (a.2.1 28) (a.2.1 29) (a.2.1 30) (a.2.1 31) (a.2.1 32) (a.1 12) (a.2.1 33) a.2.2.2.1 (a.2.1 34) a.2.2.2.2 (a.1 13) (a.1 14) (a.2.1 35) (a.2.1 36) (a.2.1 37) (a.2.1 38) (a.1 15) (a.1 16) (a.2.1 39) (a.2.1 40) (a.2.1 41) (a.2.1 42) (a.2.1 43) (a.2.1 44) (a.2.1 45) (a.2.1 46) (a.2.1 47) (a.2.1 48) (a.2.1 49) (a.2.1 50) (a.1 17) (a.1 18) (a.1 19) (a.1 20) (a.1 21) (a.2.1 51) (a.2.1 52) (a.1 22) (a.1 23) (a.2.1 53) (a.2.1 54) (a.2.1 55) (a.2.1 56) (a.2.1 57) (a.2.1 58) (a.1 24) (a.2.1 59) (a.2.1 60) (a.2.1 61) (a.2.1 62) (a.2.1 63) (a.2.1 64) (a.2.1 65) (a.2.1 66) (a.1 25) (a.2.1 67) (a.2.1 68) (a.2.1 69) (a.1 26) (a.1 27) (a.2.1 70) (a.2.1 71) (a.2.1 72) (a.2.1 73) (a.2.1 74) (a.1 28) (a.1 29) (a.2.1 75) (a.2.1 76) (a.2.1 77) (a.2.1 78) (a.1 30) (a.1 31) (a.1 32) (a.2.1 79) (a.2.1 80) (a.2.1 81) (a.1 33) (a.2.1 82) L sc
end
section
/-! rules for pictures -/
def wp {α : Type} (o : Option α) (Q : α → Prop) : Prop := ∃ a, o = some a ∧ Q a
theorem wp_some {α : Type} {a : α} {Q : α → Prop} (h : Q a) : wp (some a) Q := ⟨a, rfl, h⟩
theorem wp_gd {α : Type} {c : Prop} [Decidable c] {k : Option α} {Q : α → Prop} (hc : c) (h : wp k Q) : wp (gd c k) Q := by
  unfold gd
  rw [if_pos hc]
  exact h
theorem wp_vl {α β : Type} {e : α} {k : α → Option β} {Q : β → Prop} (h : wp (k e) Q) : wp (vl e k) Q := h
theorem wp_bind {α β : Type} {o : Option α} {k : α → Option β} {P : α → Prop} {Q : β → Prop} (h : wp o P) (hk : ∀ a, P a → wp (k a) Q) : wp (o.bind k) Q := by
  obtain ⟨a, e, hp⟩ := h
  rw [e]
  exact hk a hp
theorem wp_if {α : Type} {c : Prop} [Decidable c] {a b : Option α} {Q : α → Prop} (h1 : c → wp a Q) (h2 : ¬ c → wp b Q) : wp (if c then a else b) Q := by
  by_cases h : c
  · rw [if_pos h]
    exact h1 h
  · rw [if_neg h]
    exact h2 h
theorem wp_mono {α : Type} {o : Option α} {P Q : α → Prop} (h : wp o P) (hq : ∀ a, P a → Q a) : wp o Q := by
  obtain ⟨a, e, hp⟩ := h
  exact ⟨a, e, hq a hp⟩
theorem wp_eq {α β : Type} {o : Option α} {a : α} {k : α → Option β} {Q : β → Prop} (h : o = some a) (hk : wp (k a) Q) : wp (o.bind k) Q := by
  rw [h]
  exact hk
theorem wp_of {α : Type} {o : Option α} {a : α} {Q : α → Prop} (h : o = some a) (hq : Q a) : wp o Q := ⟨a, h, hq⟩
theorem wp_go {α : Type} {A K : Nat × α → Prop} {a : α} (h : A (0, a)) : wp (some (0, a)) (fun u : Nat × α => (u.1 = 0 → A u) ∧ (u.1 ≠ 0 → K u)) := wp_some ⟨fun _ => h, fun z => absurd rfl z⟩
theorem wp_end {α : Type} {A K : Nat × α → Prop} {t : Nat} {a : α} (ht : t ≠ 0) (h : K (t, a)) : wp (some (t, a)) (fun u : Nat × α => (u.1 = 0 → A u) ∧ (u.1 ≠ 0 → K u)) := wp_some ⟨fun z => absurd z ht, fun _ => h⟩
theorem wp_for {α : Type} {body : α → Option (Nat × α)} {K : Nat × α → Prop} (St : Nat → α → Prop) (N : Nat) (hs : ∀ k a, k ≤ N → St k a → wp (body a) (fun u : Nat × α => (u.1 = 0 → k < N ∧ St (k + 1) u.2) ∧ (u.1 ≠ 0 → K u))) : ∀ (n : Nat) (k : Nat) (a : α), k ≤ N → St k a → N - k < n → wp (zloop body n a) K := by
  intro n
  induction n with
  | zero =>
    intro k a _ _ h
    omega
  | succ n ih =>
    intro k a hk hst hn
    obtain ⟨u, hu, h0, h1⟩ := hs k a hk hst
    show wp ((body a).bind fun u => if u.1 = 0 then zloop body n u.2 else some u) K
    rw [hu]
    show wp (if u.1 = 0 then zloop body n u.2 else some u) K
    by_cases h : u.1 = 0
    · rw [if_pos h]
      have h2 := h0 h
      exact ih (k + 1) u.2 h2.1 h2.2 (by omega)
    · rw [if_neg h]
      exact ⟨u, rfl, h1 h⟩
theorem wp_loop {α : Type} {body : α → Option (Nat × α)} {K : Nat × α → Prop} {a : α} (St : Nat → α → Prop) (N : Nat) (hN : N < 5000) (h0 : St 0 a) (hs : ∀ k a, k ≤ N → St k a → wp (body a) (fun u : Nat × α => (u.1 = 0 → k < N ∧ St (k + 1) u.2) ∧ (u.1 ≠ 0 → K u))) : wp (zloop body FU a) K :=
  wp_for St N hs FU 0 a (Nat.zero_le _) h0 (by unfold FU; omega)
theorem uz_at (f : Nat → Int) (k : Nat) (x : Int) : uz f k x k = x := by
  unfold uz
  rw [if_pos rfl]
theorem uz_ne (f : Nat → Int) {k j : Nat} (x : Int) (h : j ≠ k) : uz f k x j = f j := by
  unfold uz
  rw [if_neg h]
theorem uz_inI {f : Nat → Int} {k : Nat} {x : Int} (hf : ∀ i, inI (f i)) (hx : inI x) : ∀ i, inI (uz f k x i) := by
  intro i
  unfold uz
  by_cases h : i = k
  · rw [if_pos h]
    exact hx
  · rw [if_neg h]
    exact hf i
/-- a stretch of a row filled with one number -/
def fz (f : Nat → Int) (a b : Nat) (v : Int) : Nat → Int := fun k => if a ≤ k ∧ k < b then v else f k
theorem fz_in (f : Nat → Int) {a b k : Nat} (v : Int) (h : a ≤ k ∧ k < b) : fz f a b v k = v := by
  unfold fz
  rw [if_pos h]
theorem fz_out (f : Nat → Int) {a b k : Nat} (v : Int) (h : ¬ (a ≤ k ∧ k < b)) : fz f a b v k = f k := by
  unfold fz
  rw [if_neg h]
theorem fz_nil (f : Nat → Int) {a b : Nat} (v : Int) (h : b ≤ a) : fz f a b v = f := by
  funext k
  exact fz_out f v (by omega)
theorem fz_step (f : Nat → Int) {a b : Nat} (v : Int) (h : a ≤ b) : uz (fz f a b v) b v = fz f a (b + 1) v := by
  funext k
  unfold uz fz
  by_cases h1 : k = b
  · rw [if_pos h1, if_pos (by omega)]
  · rw [if_neg h1]
    by_cases h2 : a ≤ k ∧ k < b
    · rw [if_pos h2, if_pos (by omega)]
    · rw [if_neg h2, if_neg (by omega)]
theorem fz_inI {f : Nat → Int} {a b : Nat} {x : Int} (hf : ∀ i, inI (f i)) (hx : inI x) : ∀ i, inI (fz f a b x i) := by
  intro i
  unfold fz
  by_cases h : a ≤ i ∧ i < b
  · rw [if_pos h]
    exact hx
  · rw [if_neg h]
    exact hf i
theorem q_fillRange {x1 x2 v : Int} {g : Nat → Int} {n : Nat} (h0 : 0 ≤ x1) (h1 : x1 ≤ x2) (h2 : x2 ≤ (n : Int)) (hn : n < 6000 ∧ x2 - x1 < 5000) : m_X8_fillRange x1 x2 v g n = some (fz g x1.toNat x2.toNat v) := by
  have h : wp (m_X8_fillRange x1 x2 v g n) (fun r => r = fz g x1.toNat x2.toNat v) := by
    unfold m_X8_fillRange
    refine wp_bind (P := fun u => u.2.2 = fz g x1.toNat x2.toNat v) (wp_loop (fun k a => a.1 = x1 + k ∧ a.2 = fz g x1.toNat (x1.toNat + k) v) (x2 - x1).toNat (by omega) ?_ ?_) ?_
    · exact ⟨by simp, (fz_nil g v (by omega)).symm⟩
    · intro k a hk hs
      obtain ⟨e1, e2⟩ := hs
      unfold m_X8_fillRange_3
      refine wp_gd (by omega) (wp_gd (by omega) (wp_if (fun h3 => ?_) (fun h3 => ?_)))
      · refine wp_end (by decide) ?_
        show a.2 = _
        rw [e2, show x1.toNat + k = x2.toNat by omega]
      · refine wp_gd (by omega) (wp_vl (wp_vl (wp_go ⟨by omega, ?_, ?_⟩)))
        · show a.1 + 1 = _
          omega
        · show uz a.2 a.1.toNat v = _
          rw [e2, show a.1.toNat = x1.toNat + k by omega, fz_step g v (by omega)]
          rfl
    · intro u hu
      exact wp_some hu
  obtain ⟨r, e, hr⟩ := h
  rw [e, hr]
theorem q_fill {v : Int} {g : Nat → Int} {n : Nat} (hn : n < 5000) : m_J7_fill_53178 v g n = some (fz g 0 n v) := by
  have h : wp (m_J7_fill_53178 v g n) (fun r => r = fz g 0 n v) := by
    unfold m_J7_fill_53178
    refine wp_vl (wp_bind (P := fun u => u.2.2 = fz g 0 n v) (wp_loop (fun k a => a.1 = k ∧ a.2 = fz g 0 k v) n (by omega) ?_ ?_) ?_)
    · exact ⟨by simp, (fz_nil g v (by omega)).symm⟩
    · intro k a hk hs
      obtain ⟨e1, e2⟩ := hs
      unfold m_J7_fill_53178_5
      refine wp_gd (by omega) (wp_gd (by omega) (wp_if (fun h3 => ?_) (fun h3 => ?_)))
      · refine wp_end (by decide) ?_
        show a.2 = _
        rw [e2, show k = n by omega]
      · refine wp_gd (by omega) (wp_vl (wp_vl (wp_go ⟨by omega, ?_, ?_⟩)))
        · show a.1 + 1 = _
          omega
        · show uz a.2 a.1.toNat v = _
          rw [e2, show a.1.toNat = k by omega, fz_step g v (by omega)]
    · intro u hu
      exact wp_some hu
  obtain ⟨r, e, hr⟩ := h
  rw [e, hr]
end
section
/-! rows of members in a long -/
theorem zl_andm (x : Int) (k : Nat) (mk : Int) (hm : (zl mk).toBitVec.toNat = 2 ^ k - 1) (hk : k ≤ 31) : zland x mk = x % 2 ^ k := by
  unfold zland
  have h2 : (zl x &&& zl mk).toBitVec.toNat = (x % 18446744073709551616).toNat % 2 ^ k := by
    rw [Int64.toBitVec_and, BitVec.toNat_and, hm, zl_tn, Nat.and_two_pow_sub_one_eq_mod]
  have h3 : 0 ≤ x % 18446744073709551616 := Int.emod_nonneg _ (by decide)
  have hlt : (x % 18446744073709551616).toNat % 2 ^ k < 2 ^ k := Nat.mod_lt _ (Nat.two_pow_pos k)
  have hk2 : 2 ^ k ≤ 2 ^ 31 := Nat.pow_le_pow_right (by decide) hk
  show (zl x &&& zl mk).toBitVec.toInt = _
  rw [BitVec.toInt_eq_toNat_of_lt (by rw [h2]; omega), h2]
  push_cast
  rw [Int.toNat_of_nonneg h3]
  have hd : (2 : Int) ^ k ∣ 18446744073709551616 := by
    have : (18446744073709551616 : Int) = 2 ^ k * 2 ^ (64 - k) := by rw [← Int.pow_add, show k + (64 - k) = 64 by omega]; rfl
    exact ⟨_, this⟩
  exact Int.emod_emod_of_dvd _ hd
theorem zlor_inL (x y : Int) : inL (zlor x y) := zl_inL _
/-- the member i of a row with members of b bits -/
def pz (b : Nat) (r : Int) (i : Nat) : Int := r / 2 ^ (b * i) % 2 ^ b
def isR (b most : Nat) (top r : Int) (n : Nat) : Prop := 1 ≤ n ∧ n ≤ most ∧ 0 < r ∧ (∀ i, i < n → 1 ≤ pz b r i ∧ pz b r i ≤ top) ∧ r / 2 ^ (b * n) = 0
theorem pz_pos (b : Nat) : (0 : Int) < 2 ^ b := Int.pow_pos (by decide)
theorem pz_nonneg (b : Nat) (r : Int) (i : Nat) : 0 ≤ pz b r i := Int.emod_nonneg _ (by have := pz_pos b; omega)
theorem pz_lt (b : Nat) (r : Int) (i : Nat) : pz b r i < 2 ^ b := Int.emod_lt_of_pos _ (pz_pos b)
theorem pz_next (b : Nat) (r : Int) (i : Nat) : r / 2 ^ (b * (i + 1)) = r / 2 ^ (b * i) / 2 ^ b := by
  rw [Int.ediv_ediv_of_nonneg (by have := pz_pos (b * i); omega), ← Int.pow_add, Nat.mul_add, Nat.mul_one]
theorem pz_zero {b : Nat} {r : Int} {n : Nat} (h : r / 2 ^ (b * n) = 0) : ∀ k, n ≤ k → r / 2 ^ (b * k) = 0 := by
  intro k hk
  induction hk with
  | refl => exact h
  | step _ ih => rw [pz_next, ih]; exact Int.zero_ediv _
theorem pz_none {b : Nat} {r : Int} {n : Nat} (h : r / 2 ^ (b * n) = 0) {k : Nat} (hk : n ≤ k) : pz b r k = 0 := by
  unfold pz
  rw [pz_zero h k hk]
  exact Int.zero_emod _
theorem isR_uniq {b most : Nat} {top r : Int} {n m : Nat} (h1 : isR b most top r n) (h2 : isR b most top r m) : n = m := by
  obtain ⟨_, _, _, p1, z1⟩ := h1
  obtain ⟨_, _, _, p2, z2⟩ := h2
  rcases Nat.lt_trichotomy n m with h | h | h
  · have := (p2 n h).1
    rw [pz_none z1 (Nat.le_refl _)] at this
    omega
  · exact h
  · have := (p1 m h).1
    rw [pz_none z2 (Nat.le_refl _)] at this
    omega
theorem isR_lt {b most : Nat} {top r : Int} {n : Nat} (h : isR b most top r n) : r < 2 ^ (b * n) := by
  have h1 := h.2.2.2.2
  have h2 := pz_pos (b * n)
  have h3 := Int.emod_lt_of_pos r h2
  have h4 := Int.emod_add_mul_ediv r (2 ^ (b * n))
  rw [h1] at h4
  omega
theorem wp_out {α : Type} {o : Option α} {a : α} (h : wp o (fun v => v = a)) : o = some a := by
  obtain ⟨v, e, rfl⟩ := h
  exact e
theorem pw_le {m n : Nat} (h : m ≤ n) : (2 : Int) ^ m ≤ 2 ^ n := by
  have h1 : (2 : Nat) ^ m ≤ 2 ^ n := Nat.pow_le_pow_right (by decide) h
  exact_mod_cast h1
theorem q_piece {r x2 x3 : Int} (b i : Nat) (hb : b = 5 ∨ b = 6 ∨ b = 14) (e2 : x2 = b) (e3 : x3 = i) (hr : inL r) (hi : b * i < 64) : m_X9_piece r x2 x3 = some (pz b r i) := by
  have e : x2 * x3 = ((b * i : Nat) : Int) := by rw [e2, e3]; exact (Int.natCast_mul b i).symm
  refine wp_out ?_
  unfold m_X9_piece
  refine wp_gd hr (wp_gd (by rw [e]; omega) (wp_gd (by omega) (wp_some ?_)))
  rw [e, e2, Int.toNat_natCast, Int.toNat_natCast, zl_andm _ b _ (by rcases hb with rfl | rfl | rfl <;> decide) (by omega)]
  rfl
theorem q_sizeOf0 {r x2 : Int} (b : Nat) (hb : b = 5 ∨ b = 6 ∨ b = 14) (e2 : x2 = b) (hr : inL r) : wp (m_X9_sizeOf r x2) (fun v => ∃ k : Nat, v = k ∧ b * k < 74 ∧ (∀ i, i < k → pz b r i ≠ 0) ∧ (60 ≤ b * k ∨ pz b r k = 0)) := by
  have h7 : (2 : Int) ^ b ≤ 16384 := by rcases hb with rfl | rfl | rfl <;> decide
  unfold m_X9_sizeOf
  refine wp_bind (P := fun u : Nat × Int => ∃ k : Nat, u.2 = k ∧ b * k < 74 ∧ (∀ i, i < k → pz b r i ≠ 0) ∧ (60 ≤ b * k ∨ pz b r k = 0)) (wp_loop (fun k a => a = (k : Int) ∧ b * k < 74 ∧ ∀ i, i < k → pz b r i ≠ 0) 13 (by omega) ?_ ?_) ?_
  · exact ⟨rfl, by omega, fun i h => absurd h (by omega)⟩
  · intro k a hk hs
    obtain ⟨e1, hlt, hp⟩ := hs
    have e : x2 * a = ((b * k : Nat) : Int) := by rw [e2, e1]; exact (Int.natCast_mul b k).symm
    unfold m_X9_sizeOf_2
    refine wp_gd (by rw [e]; omega) (wp_if (fun h3 => ?_) (fun h3 => ?_))
    · rw [e] at h3
      exact wp_end (by decide) ⟨k, e1, hlt, hp, Or.inl (by omega)⟩
    · rw [e] at h3
      refine wp_eq (q_piece b k hb e2 e1 hr (by omega)) ?_
      have h5 := pz_nonneg b r k
      have h6 := pz_lt b r k
      refine wp_gd (by omega) (wp_if (fun h4 => ?_) (fun h4 => ?_))
      · exact wp_end (by decide) ⟨k, e1, hlt, hp, Or.inr h4⟩
      · refine wp_vl (wp_go ⟨?_, ?_, ?_, ?_⟩)
        · rcases hb with rfl | rfl | rfl <;> omega
        · rw [e1]; rfl
        · rcases hb with rfl | rfl | rfl <;> omega
        · intro i hi
          by_cases h8 : i = k
          · rw [h8]; exact h4
          · exact hp i (by omega)
  · rintro ⟨t, x⟩ hu
    exact wp_some hu
theorem q_sizeOf {r x2 : Int} (b most n : Nat) {top : Int} (hb : (b = 5 ∧ most = 4) ∨ (b = 6 ∧ most = 6) ∨ (b = 6 ∧ most = 3) ∨ (b = 14 ∧ most = 4)) (e2 : x2 = b) (hr : inL r) (h : isR b most top r n) : m_X9_sizeOf r x2 = some (n : Int) := by
  refine wp_out (wp_mono (q_sizeOf0 b (by omega) e2 hr) ?_)
  intro v hv
  obtain ⟨k, rfl, h1, h2, h3⟩ := hv
  obtain ⟨g1, g2, g3, g4, g5⟩ := h
  rcases Nat.lt_trichotomy k n with h | h | h
  · rcases h3 with h3 | h3
    · exfalso
      rcases hb with ⟨rfl, rfl⟩ | ⟨rfl, rfl⟩ | ⟨rfl, rfl⟩ | ⟨rfl, rfl⟩ <;> omega
    · have := (g4 k h).1
      omega
  · rw [h]
  · exact absurd (pz_none g5 (Nat.le_refl n)) (h2 n h)
theorem zushr_nn {x y : Int} (h : 0 ≤ x) : zushr x y = x / 2 ^ y.toNat := by
  unfold zushr
  rw [if_pos h]
theorem zushr_ng {x y : Int} (h : x < 0) : zushr x y = (x + 18446744073709551616) / 2 ^ y.toNat := by
  unfold zushr
  rw [if_neg (by omega)]
theorem zushr_inL {x y : Int} (hx : inL x) (hy : 1 ≤ y.toNat) : inL (zushr x y) := by
  have hp := pz_pos y.toNat
  have h2 : (2 : Int) ^ 1 ≤ 2 ^ y.toNat := pw_le hy
  have h3 : (2 : Int) ^ 1 = 2 := rfl
  rw [h3] at h2
  have key : ∀ z : Int, 0 ≤ z → z < 18446744073709551616 → inL (z / 2 ^ y.toNat) := by
    intro z h0 h1
    have a1 : 0 ≤ z / 2 ^ y.toNat := Int.ediv_nonneg h0 (by omega)
    have a2 : z / 2 ^ y.toNat < 9223372036854775808 := Int.ediv_lt_of_lt_mul hp (by omega)
    exact ⟨by omega, a2⟩
  by_cases h : 0 ≤ x
  · rw [zushr_nn h]
    exact key x h (by omega)
  · rw [zushr_ng (by omega)]
    exact key _ (by omega) (by omega)
set_option maxHeartbeats 1000000 in
theorem q_rowLength {r x2 x3 x4 : Int} (b most : Nat) (hb : (b = 5 ∧ most = 4) ∨ (b = 6 ∧ most = 6) ∨ (b = 6 ∧ most = 3) ∨ (b = 14 ∧ most = 4)) (e2 : x2 = b) (e4 : x4 = most) (h3 : 0 ≤ x3 ∧ x3 < 20000) (hr : inL r) : wp (m_X8_rowLength r x2 x3 x4) (fun v => (v = 0 ∧ ∀ n, ¬ isR b most x3 r n) ∨ ∃ n : Nat, v = n ∧ isR b most x3 r n) := by
  have hb5 : b = 5 ∨ b = 6 ∨ b = 14 := by omega
  have hbm : b * most ≤ 56 := by rcases hb with ⟨rfl, rfl⟩ | ⟨rfl, rfl⟩ | ⟨rfl, rfl⟩ | ⟨rfl, rfl⟩ <;> decide
  have h2b : (2 : Int) ^ b ≤ 16384 := by rcases hb5 with rfl | rfl | rfl <;> decide
  have hp2 := pz_pos b
  have hz : ∀ x : Int, zland x (1 * 2 ^ Int.toNat x2 - 1) = x % 2 ^ b := by
    intro x
    rw [e2, Int.toNat_natCast]
    exact zl_andm x b _ (by rcases hb5 with rfl | rfl | rfl <;> decide) (by omega)
  unfold m_X8_rowLength
  refine wp_gd (by omega) (wp_vl ?_)
  refine wp_bind (P := fun u : Nat × Int × Int => (0 ≤ r → ∃ k : Nat, u.2.2 = k ∧ u.2.1 = r / 2 ^ (b * k) ∧ k ≤ most ∧ (∀ i, i < k → 1 ≤ pz b r i ∧ pz b r i ≤ x3) ∧ (u.1 = 1 → k = most ∨ pz b r k = 0) ∧ (u.1 ≠ 1 → x3 < pz b r k)) ∧ (r < 0 → u.2.1 ≠ 0) ∧ inL u.2.1) (wp_loop (fun k a => a.2 = (k : Int) ∧ k ≤ most ∧ inL a.1 ∧ (0 ≤ r → a.1 = r / 2 ^ (b * k) ∧ ∀ i, i < k → 1 ≤ pz b r i ∧ pz b r i ≤ x3) ∧ (r < 0 → (k = 0 → a.1 = r) ∧ (0 < k → a.1 = (r + 18446744073709551616) / 2 ^ (b * k)))) most (by omega) ?_ ?_) ?_
  · refine ⟨rfl, Nat.zero_le _, hr, fun _ => ⟨?_, fun i h => absurd h (by omega)⟩, fun _ => ⟨fun _ => rfl, fun h => absurd h (by omega)⟩⟩
    show r = r / 2 ^ (b * 0)
    rw [Nat.mul_zero, Int.pow_zero, Int.ediv_one]
  · intro k a hk hs
    obtain ⟨e1, hkm, hl, hp, hn⟩ := hs
    have hbk : b * k ≤ b * most := Nat.mul_le_mul_left b hkm
    have hneg : r < 0 → a.1 ≠ 0 := by
      intro h
      rcases Nat.eq_zero_or_pos k with h0 | h0
      · rw [(hn h).1 h0]
        omega
      · rw [(hn h).2 h0]
        have h1 : (2 : Int) ^ (b * k) ≤ 2 ^ 56 := pw_le (by omega)
        have h4 : (2 : Int) ^ 56 = 72057594037927936 := by decide
        have h5 : 1 ≤ (r + 18446744073709551616) / 2 ^ (b * k) := Int.le_ediv_of_mul_le (pz_pos _) (by omega)
        omega
    have hm0 : 0 ≤ a.1 % 2 ^ b := Int.emod_nonneg _ (by omega)
    have hm1 : a.1 % 2 ^ b < 2 ^ b := Int.emod_lt_of_pos _ hp2
    have hpz : 0 ≤ r → a.1 % 2 ^ b = pz b r k := fun h => by rw [(hp h).1]; rfl
    have ex : x2.toNat = b := by omega
    unfold m_X8_rowLength_13
    rw [hz]
    refine wp_gd (by omega) (wp_gd (by omega) (wp_if (fun h4 => ?_) (fun h4 => ?_)))
    · exact wp_end (by decide) ⟨fun h => ⟨k, e1, (hp h).1, hkm, (hp h).2, fun _ => Or.inl (by omega), fun z => absurd rfl z⟩, hneg, hl⟩
    · refine wp_gd (by omega) (wp_if (fun h5 => ?_) (fun h5 => ?_))
      · exact wp_end (by decide) ⟨fun h => ⟨k, e1, (hp h).1, hkm, (hp h).2, fun _ => Or.inr (by rw [← hpz h]; exact h5), fun z => absurd rfl z⟩, hneg, hl⟩
      · refine wp_gd (by omega) (wp_gd (by omega) (wp_if (fun h6 => ?_) (fun h6 => ?_)))
        · refine wp_gd hl (wp_gd (by omega) (wp_vl (wp_vl (wp_go ⟨by omega, ?_, by omega, ?_, ?_, ?_⟩))))
          · show a.2 + 1 = _
            omega
          · exact zushr_inL hl (by omega)
          · intro h
            obtain ⟨p1, p2⟩ := hp h
            refine ⟨?_, ?_⟩
            · show zushr a.1 x2 = _
              rw [zushr_nn (by rw [p1]; exact Int.ediv_nonneg h (by have := pz_pos (b * k); omega)), ex, pz_next, p1]
            · intro i hi
              by_cases h8 : i = k
              · rw [h8, ← hpz h]
                omega
              · exact p2 i (by omega)
          · intro h
            refine ⟨fun z => absurd z (by omega), fun _ => ?_⟩
            show zushr a.1 x2 = _
            rcases Nat.eq_zero_or_pos k with h0 | h0
            · rw [(hn h).1 h0, zushr_ng h, ex, h0, Nat.zero_add, Nat.mul_one]
            · have h9 := (hn h).2 h0
              rw [zushr_nn (by rw [h9]; exact Int.ediv_nonneg (by omega) (by have := pz_pos (b * k); omega)), ex, pz_next, h9]
        · exact wp_end (by decide) ⟨fun h => ⟨k, e1, (hp h).1, hkm, (hp h).2, fun z => absurd z (show ¬ (2 : Nat) = 1 by decide), fun _ => by rw [← hpz h]; omega⟩, hneg, hl⟩
  · rintro ⟨t, x7, x9⟩ ⟨hP, hN, hL⟩
    have hP : 0 ≤ r → ∃ k : Nat, x9 = k ∧ x7 = r / 2 ^ (b * k) ∧ k ≤ most ∧ (∀ i, i < k → 1 ≤ pz b r i ∧ pz b r i ≤ x3) ∧ (t = 1 → k = most ∨ pz b r k = 0) ∧ (t ≠ 1 → x3 < pz b r k) := hP
    have hN : r < 0 → x7 ≠ 0 := hN
    have hL : inL x7 := hL
    have hno : r < 0 → ∀ n, ¬ isR b most x3 r n := fun h n z => by have := z.2.2.1; omega
    show wp (if t = 1 then m_X8_rowLength_55 x7 x9 else some 0) _
    refine wp_if (fun ht => ?_) (fun ht => ?_)
    · unfold m_X8_rowLength_55
      refine wp_gd hL (wp_if (fun h7 => wp_some ?_) (fun h7 => wp_some ?_))
      · by_cases h : 0 ≤ r
        · obtain ⟨k, a1, a2, a3, a4, a5, a6⟩ := hP h
          rw [h7] at a2
          rcases Nat.eq_zero_or_pos k with h0 | h0
          · refine Or.inl ⟨by rw [a1, h0]; rfl, fun n z => ?_⟩
            rw [h0, Nat.mul_zero, Int.pow_zero, Int.ediv_one] at a2
            have := z.2.2.1
            omega
          · refine Or.inr ⟨k, a1, h0, a3, ?_, a4, a2.symm⟩
            have h8 := (a4 0 h0).1
            unfold pz at h8
            rw [Nat.mul_zero, Int.pow_zero, Int.ediv_one] at h8
            by_cases h9 : r = 0
            · rw [h9, Int.zero_emod] at h8
              omega
            · omega
        · exact absurd h7 (hN (by omega))
      · refine Or.inl ⟨rfl, fun n z => ?_⟩
        by_cases h : 0 ≤ r
        · obtain ⟨k, a1, a2, a3, a4, a5, a6⟩ := hP h
          by_cases hnk : n ≤ k
          · exact h7 (by rw [a2]; exact pz_zero z.2.2.2.2 k hnk)
          · rcases a5 ht with h8 | h8
            · have := z.2.1
              omega
            · have := (z.2.2.2.1 k (by omega)).1
              omega
        · exact hno (by omega) n z
    · refine wp_some (Or.inl ⟨rfl, fun n z => ?_⟩)
      by_cases h : 0 ≤ r
      · obtain ⟨k, a1, a2, a3, a4, a5, a6⟩ := hP h
        have h8 := a6 ht
        by_cases hnk : n ≤ k
        · have := pz_none z.2.2.2.2 hnk
          omega
        · have := (z.2.2.2.1 k (by omega)).2
          omega
      · exact hno (by omega) n z
theorem q_isRow {r x2 x3 top : Int} (b most : Nat) (hb : (b = 5 ∧ most = 4) ∨ (b = 6 ∧ most = 6) ∨ (b = 6 ∧ most = 3) ∨ (b = 14 ∧ most = 4)) (e2 : x2 = b) (e3 : x3 = most) (ht : 0 ≤ top ∧ top < 20000) (hr : inL r) : wp (m_X9_isRow r x2 x3 top) (fun v => (v = 0 ∧ ∀ n, ¬ isR b most top r n) ∨ (v = 1 ∧ ∃ n, isR b most top r n)) := by
  have hb5 : b = 5 ∨ b = 6 ∨ b = 14 := by omega
  have hbm : b * most ≤ 56 := by rcases hb with ⟨rfl, rfl⟩ | ⟨rfl, rfl⟩ | ⟨rfl, rfl⟩ | ⟨rfl, rfl⟩ <;> decide
  have h2b : (2 : Int) ^ b ≤ 16384 := by rcases hb5 with rfl | rfl | rfl <;> decide
  have no : ∀ (x5 : Int), (∀ n, ¬ isR b most top r n) → wp (m_X9_isRow_40 r x2 top x5) (fun v => (v = 0 ∧ ∀ n, ¬ isR b most top r n) ∨ (v = 1 ∧ ∃ n, isR b most top r n)) := by
    intro x5 hn
    unfold m_X9_isRow_40 m_X9_isRow_41
    refine wp_bind (P := fun u : Nat × Int × Int => u.2.1 = 0) (wp_loop (fun k a => a.1 = 0) 0 (by omega) rfl ?_) ?_
    · intro k a hk h1
      unfold m_X9_isRow_46
      refine wp_gd (by omega) (wp_if (fun h3 => wp_end (by decide) h1) (fun h3 => absurd h1 h3))
    · rintro ⟨t, x6, x7⟩ h1
      have h1 : x6 = 0 := h1
      exact wp_gd (Or.inl h1) (wp_some (Or.inl ⟨h1, hn⟩))
  unfold m_X9_isRow
  refine wp_bind (q_sizeOf0 b hb5 e2 hr) ?_
  rintro v ⟨k, rfl, h1, h2, h4⟩
  have hkb : k < 60 := by rcases hb5 with rfl | rfl | rfl <;> omega
  have e : x2 * (k : Int) = ((b * k : Nat) : Int) := by rw [e2]; exact (Int.natCast_mul b k).symm
  have size : ∀ n, isR b most top r n → n = k := by
    intro n h
    have := q_sizeOf b most n hb e2 hr h
    obtain ⟨g1, g2, g3, g4, g5⟩ := h
    rcases Nat.lt_trichotomy k n with h | h | h
    · rcases h4 with h4 | h4
      · exfalso
        rcases hb with ⟨rfl, rfl⟩ | ⟨rfl, rfl⟩ | ⟨rfl, rfl⟩ | ⟨rfl, rfl⟩ <;> omega
      · have := (g4 k h).1
        omega
    · exact h.symm
    · exact absurd (pz_none g5 (Nat.le_refl n)) (h2 n h)
  refine wp_gd hr (wp_if (fun c1 => no _ (fun n z => by have := z.2.2.1; omega)) (fun c1 => ?_))
  refine wp_gd (by omega) (wp_if (fun c2 => no _ (fun n z => by have := size n z; have := z.1; omega)) (fun c2 => ?_))
  refine wp_gd (by omega) (wp_if (fun c3 => no _ (fun n z => by have := size n z; have := z.2.1; omega)) (fun c3 => ?_))
  have hbk : b * k ≤ b * most := Nat.mul_le_mul_left b (by omega)
  rw [e, Int.toNat_natCast]
  have hp := pz_pos (b * k)
  have hd0 : 0 ≤ r / 2 ^ (b * k) := Int.ediv_nonneg (by omega) (by omega)
  have hd1 : r / 2 ^ (b * k) ≤ r := Int.ediv_le_self _ (by omega)
  refine wp_gd (by omega) (wp_gd (by omega) (wp_if (fun c4 => ?_) (fun c4 => no _ (fun n z => c4 (by have := size n z; rw [← this]; exact z.2.2.2.2)))))
  unfold m_X9_isRow_41
  refine wp_bind (P := fun u : Nat × Int × Int => (u.2.1 = 1 ∧ ∀ i, i < k → pz b r i ≤ top) ∨ (u.2.1 = 0 ∧ ∃ i, i < k ∧ top < pz b r i)) (wp_loop (fun j a => a.2 = (j : Int) ∧ ((a.1 = 1 ∧ ∀ i, i < j → pz b r i ≤ top) ∨ (a.1 = 0 ∧ ∃ i, i < j ∧ i < k ∧ top < pz b r i))) k (by omega) ?_ ?_) ?_
  · exact ⟨rfl, Or.inl ⟨rfl, fun i h => absurd h (by omega)⟩⟩
  · intro j a hj hs
    obtain ⟨e1, hs⟩ := hs
    unfold m_X9_isRow_46
    refine wp_gd (by omega) (wp_if (fun c5 => ?_) (fun c5 => ?_))
    · refine wp_end (by decide) (Or.inr ⟨c5, ?_⟩)
      rcases hs with ⟨z, _⟩ | ⟨_, i, i1, i2, i3⟩
      · omega
      · exact ⟨i, i2, i3⟩
    · rcases hs with ⟨g1, g2⟩ | ⟨g1, _⟩
      · refine wp_gd (by omega) (wp_gd (by omega) (wp_if (fun c6 => ?_) (fun c6 => ?_)))
        · exact wp_end (by decide) (Or.inl ⟨g1, fun i hi => g2 i (by omega)⟩)
        · have hbj : b * j ≤ b * k := Nat.mul_le_mul_left b hj
          refine wp_eq (q_piece b j hb5 e2 e1 hr (by omega)) ?_
          have h5 := pz_nonneg b r j
          have h6 := pz_lt b r j
          refine wp_gd (by omega) (wp_gd (by omega) (wp_if (fun c7 => ?_) (fun c7 => ?_)))
          · refine wp_vl (wp_go ⟨by omega, by show a.2 + 1 = _; omega, Or.inr ⟨rfl, j, by omega, by omega, c7⟩⟩)
          · refine wp_vl (wp_go ⟨by omega, by show a.2 + 1 = _; omega, Or.inl ⟨rfl, fun i hi => ?_⟩⟩)
            by_cases h8 : i = j
            · rw [h8]
              omega
            · exact g2 i (by omega)
      · exact absurd g1 c5
  · rintro ⟨t, x6, x7⟩ hu
    have hu : (x6 = 1 ∧ ∀ i, i < k → pz b r i ≤ top) ∨ (x6 = 0 ∧ ∃ i, i < k ∧ top < pz b r i) := hu
    refine wp_gd (by omega) (wp_some ?_)
    rcases hu with ⟨g1, g2⟩ | ⟨g1, i, i1, i2⟩
    · refine Or.inr ⟨g1, k, by omega, by omega, by omega, fun i hi => ⟨?_, g2 i hi⟩, c4⟩
      have := h2 i hi
      have := pz_nonneg b r i
      omega
    · refine Or.inl ⟨g1, fun n z => ?_⟩
      have h9 := size n z
      have := (z.2.2.2.1 i (by omega)).2
      omega
end
section
/-! digits; entries; the least of a set -/
def blf (v : Int) : Nat → Nat
  | 0 => 0
  | n + 1 => if 0 < v / 2 ^ n then n + 1 else blf v n
def bl (v : Int) : Nat := blf v 31
theorem bl_next (v : Int) (k : Nat) : v / 2 ^ (k + 1) = v / 2 ^ k / 2 := by
  have h := pz_next 1 v k
  rw [Nat.one_mul, Nat.one_mul] at h
  exact h
theorem bl_mono {v : Int} {d : Nat} (h : v / 2 ^ d ≤ 0) : ∀ k, d ≤ k → v / 2 ^ k ≤ 0 := by
  intro k hk
  induction hk with
  | refl => exact h
  | step _ ih => rw [bl_next]; omega
theorem bl_of {v : Int} {d : Nat} (h1 : v / 2 ^ d ≤ 0) (h2 : ∀ j, j < d → 0 < v / 2 ^ j) : ∀ n, d ≤ n → blf v n = d := by
  intro n hn
  induction n with
  | zero =>
    have : d = 0 := by omega
    rw [this]
    rfl
  | succ n ih =>
    show (if 0 < v / 2 ^ n then n + 1 else blf v n) = d
    by_cases h : d ≤ n
    · have := bl_mono h1 n h
      rw [if_neg (by omega)]
      exact ih h
    · rw [if_pos (h2 n (by omega))]
      omega
theorem blf_le (v : Int) : ∀ n, blf v n ≤ n := by
  intro n
  induction n with
  | zero => exact Nat.le_refl _
  | succ n ih =>
    show (if 0 < v / 2 ^ n then n + 1 else blf v n) ≤ n + 1
    by_cases h : 0 < v / 2 ^ n
    · rw [if_pos h]
      exact Nat.le_refl _
    · rw [if_neg h]
      omega
theorem bl_le (v : Int) : bl v ≤ 31 := blf_le v 31
theorem bl_top {v : Int} (hv : inI v) : v / 2 ^ 31 ≤ 0 := by
  have h1 : (2 : Int) ^ 31 = 2147483648 := by decide
  have h2 : v / 2 ^ 31 < 1 := Int.ediv_lt_of_lt_mul (pz_pos 31) (by omega)
  omega
theorem q_digits {v : Int} (hv : inI v) : m_X8_digits v = some (bl v : Int) := by
  refine wp_out ?_
  unfold m_X8_digits
  refine wp_bind (P := fun u : Nat × Int => u.2 = (bl v : Int)) (wp_loop (fun k a => a = (k : Int) ∧ inI (v / 2 ^ k) ∧ ∀ j, j < k → 0 < v / 2 ^ j) 31 (by omega) ?_ ?_) ?_
  · refine ⟨rfl, ?_, fun j h => absurd h (by omega)⟩
    rw [Int.pow_zero, Int.ediv_one]
    exact hv
  · intro k a hk hs
    obtain ⟨e1, h1, h2⟩ := hs
    have ek : a.toNat = k := by omega
    unfold m_X8_digits_2
    refine wp_gd (by omega) (wp_if (fun c1 => ?_) (fun c1 => ?_))
    · refine wp_end (by decide) ?_
      show a = _
      have hk31 : k = 31 := by omega
      rw [hk31] at h2
      rw [e1, hk31, show bl v = 31 from bl_of (bl_top hv) h2 31 (Nat.le_refl _)]
    · rw [ek]
      refine wp_gd hv (wp_gd (by omega) (wp_gd h1 (wp_if (fun c2 => ?_) (fun c2 => ?_))))
      · refine wp_end (by decide) ?_
        show a = _
        rw [e1, show bl v = k from bl_of c2 h2 31 hk]
      · refine wp_vl (wp_go ⟨by omega, by show a + 1 = _; omega, ?_, ?_⟩)
        · rw [bl_next]
          omega
        · intro j hj
          by_cases h8 : j = k
          · rw [h8]
            omega
          · exact h2 j (by omega)
  · rintro ⟨t, x⟩ hu
    exact wp_some hu
theorem q_bitsOf {v : Int} (hv : inI v) : m_X9_bitsOf v = some (bl v : Int) := by
  refine wp_out ?_
  unfold m_X9_bitsOf
  refine wp_bind (P := fun u : Nat × Int × Int => u.2.1 = (bl v : Int)) (wp_loop (fun k a => a.1 = (k : Int) ∧ a.2 = v / 2 ^ k ∧ inI (v / 2 ^ k) ∧ ∀ j, j < k → 0 < v / 2 ^ j) 31 (by omega) ?_ ?_) ?_
  · refine ⟨rfl, ?_, ?_, fun j h => absurd h (by omega)⟩
    · show v = _
      rw [Int.pow_zero, Int.ediv_one]
    · rw [Int.pow_zero, Int.ediv_one]
      exact hv
  · intro k a hk hs
    obtain ⟨e1, e2, h1, h2⟩ := hs
    unfold m_X9_bitsOf_4
    rw [e2]
    refine wp_gd h1 (wp_if (fun c1 => ?_) (fun c1 => ?_))
    · refine wp_end (by decide) ?_
      show a.1 = _
      rw [e1, show bl v = k from bl_of c1 h2 31 hk]
    · have hk31 : k ≠ 31 := fun z => by
        have := bl_top hv
        rw [← z] at this
        omega
      refine wp_vl (wp_vl (wp_go ⟨by omega, by show a.1 + 1 = _; omega, ?_, ?_, ?_⟩))
      · show v / 2 ^ k / 2 = _
        rw [bl_next]
      · rw [bl_next]
        omega
      · intro j hj
        by_cases h8 : j = k
        · rw [h8]
          omega
        · exact h2 j (by omega)
  · rintro ⟨t, x, y⟩ hu
    exact wp_some hu
theorem q_wordOf {e : Int} (h : 0 ≤ e ∧ e < 540) : m_X8_wordOf e = some (e / 9) := by
  refine wp_out ?_
  unfold m_X8_wordOf
  refine wp_gd (by omega) (wp_if (fun c => by omega) (fun c => wp_some ?_))
  exact Int.tdiv_eq_ediv_of_nonneg h.1
theorem q_endingOf {e : Int} (h : 0 ≤ e ∧ e < 540) : m_X8_endingOf e = some (e % 9 - 1) := by
  refine wp_out ?_
  unfold m_X8_endingOf
  refine wp_gd (by omega) (wp_if (fun c => by omega) (fun c => wp_some ?_))
  rw [Int.tmod_eq_emod_of_nonneg h.1]
theorem q_wordOfG : m_X8_wordOf 540 = some (-1) := by decide
theorem q_endingOfG : m_X8_endingOf 540 = some (-1) := by decide
/-- the kind of an entry -/
def kd (K : Nat → Int) (e : Int) : Int := if e = 540 then 8 else K (e / 9).toNat
theorem q_kindOf {K : Nat → Int} {e : Int} (h : 0 ≤ e ∧ e ≤ 540) : m_X1_kindOf e K = some (kd K e) := by
  refine wp_out ?_
  unfold m_X1_kindOf kd
  refine wp_gd (by omega) (wp_if (fun c => ?_) (fun c => ?_))
  · refine wp_some ?_
    rw [if_pos c]
  · refine wp_eq (q_wordOf (by omega)) (wp_gd (by omega) (wp_some ?_))
    rw [if_neg c]
theorem q_placeOf {a b : Int} (ha : 0 ≤ a ∧ a < 100) (hb : 0 ≤ b ∧ b < 100) : m_X5_placeOf a b = some ((b * (b - 1) / 2 + a) * 9) := by
  have h1 : 0 ≤ b * (b - 1) := by
    by_cases h : b = 0
    · rw [h]; decide
    · exact Int.mul_nonneg hb.1 (by omega)
  have h2 : b * (b - 1) ≤ 100 * 100 := by
    by_cases h : b = 0
    · rw [h]; decide
    · exact Int.mul_le_mul (by omega) (by omega) (by omega) (by omega)
  refine wp_out ?_
  unfold m_X5_placeOf
  refine wp_gd (by omega) (wp_some ?_)
  rw [Int.tdiv_eq_ediv_of_nonneg h1]
theorem q_wordCost {w : Nat} {C Pr : Nat → Int} (hw : w < 60) (hc : inI (C w)) {x : Int} (e : x = w) : m_X1_wordCost x C Pr = some (Pr 2 - 8 * (bl (C w) : Int)) := by
  refine wp_out ?_
  unfold m_X1_wordCost
  have ex : x.toNat = w := by omega
  rw [ex]
  exact wp_gd (by omega) (wp_eq (q_digits hc) (wp_some rfl))
/-- v is the least of a set; far: there is none -/
def Lst (S : Int → Prop) (far v : Int) : Prop := (v = far ∧ ∀ x, ¬ S x) ∨ (v < far ∧ S v ∧ ∀ x, S x → v ≤ x)
theorem Lst.iff {S S' : Int → Prop} {far v : Int} (h : Lst S far v) (hS : ∀ x, S' x ↔ S x) : Lst S' far v := by
  rcases h with ⟨h1, h2⟩ | ⟨h1, h2, h3⟩
  · exact Or.inl ⟨h1, fun x z => h2 x ((hS x).mp z)⟩
  · exact Or.inr ⟨h1, (hS v).mpr h2, fun x z => h3 x ((hS x).mp z)⟩
theorem Lst.none {S : Int → Prop} {far : Int} (h : ∀ x, ¬ S x) : Lst S far far := Or.inl ⟨rfl, h⟩
theorem Lst.push {S S' : Int → Prop} {far v c : Int} (h : Lst S far v) (hc : c < far) (hS : ∀ x, S' x ↔ S x ∨ x = c) : Lst S' far (min v c) := by
  rcases h with ⟨h1, h2⟩ | ⟨h1, h2, h3⟩
  · refine Or.inr ?_
    rw [show min v c = c by omega]
    refine ⟨hc, (hS c).mpr (Or.inr rfl), fun x z => ?_⟩
    rcases (hS x).mp z with z | z
    · exact absurd z (h2 x)
    · omega
  · refine Or.inr ⟨by omega, ?_, fun x z => ?_⟩
    · by_cases h : v ≤ c
      · rw [show min v c = v by omega]
        exact (hS v).mpr (Or.inl h2)
      · rw [show min v c = c by omega]
        exact (hS c).mpr (Or.inr rfl)
    · rcases (hS x).mp z with z | z
      · have := h3 x z
        omega
      · omega
/-- a set whose every number is above one of a smaller set -/
theorem Lst.dom {S S' : Int → Prop} {far v : Int} (h : Lst S far v) (h1 : ∀ x, S x → S' x) (h2 : ∀ x, S' x → ∃ y, S y ∧ y ≤ x) : Lst S' far v := by
  rcases h with ⟨g1, g2⟩ | ⟨g1, g2, g3⟩
  · refine Or.inl ⟨g1, fun x z => ?_⟩
    obtain ⟨y, hy, _⟩ := h2 x z
    exact g2 y hy
  · refine Or.inr ⟨g1, h1 v g2, fun x z => ?_⟩
    obtain ⟨y, hy, hxy⟩ := h2 x z
    have := g3 y hy
    omega
theorem Lst.two {S : Int → Prop} {f1 f2 v1 v2 : Int} (h1 : Lst S f1 v1) (h2 : Lst S f2 v2) : (v1 = f1 ∧ v2 = f2) ∨ (v1 = v2 ∧ v1 < f1 ∧ v2 < f2 ∧ S v1) := by
  rcases h1 with ⟨a1, a2⟩ | ⟨a1, a2, a3⟩
  · rcases h2 with ⟨b1, b2⟩ | ⟨b1, b2, b3⟩
    · exact Or.inl ⟨a1, b1⟩
    · exact absurd b2 (a2 _)
  · rcases h2 with ⟨b1, b2⟩ | ⟨b1, b2, b3⟩
    · exact absurd a2 (b2 _)
    · have := a3 _ b2
      have := b3 _ a2
      exact Or.inr ⟨by omega, a1, b1, a2⟩
theorem Lst.le {S : Int → Prop} {far v x : Int} (h : Lst S far v) (hx : S x) : v ≤ x ∧ v < far := by
  rcases h with ⟨_, h2⟩ | ⟨h1, _, h3⟩
  · exact absurd hx (h2 x)
  · exact ⟨h3 x hx, h1⟩
theorem Lst.mem {S : Int → Prop} {far v : Int} (h : Lst S far v) (hv : v ≠ far) : S v := by
  rcases h with ⟨h1, _⟩ | ⟨_, h2, _⟩
  · exact absurd h1 hv
  · exact h2
theorem Lst.no {S : Int → Prop} {far : Int} (h : Lst S far far) : ∀ x, ¬ S x := by
  rcases h with ⟨_, h2⟩ | ⟨h1, _⟩
  · exact h2
  · omega
end
section
/-! spellings at a place; walks over sounds -/
def mis (t : Nat → Int) (row : Int) (p : Nat) : Nat → Nat
  | 0 => 0
  | k + 1 => mis t row p k + (if pz 5 row k = t (p + k) then 0 else 1)
theorem mis_mono (t : Nat → Int) (row : Int) (p : Nat) {j k : Nat} (h : j ≤ k) : mis t row p j ≤ mis t row p k := by
  induction h with
  | refl => exact Nat.le_refl _
  | step _ ih => exact Nat.le_trans ih (Nat.le_add_right _ _)
def prc (B : Nat → Nat → Int) (t : Nat → Int) (i p : Nat) : Int := B 3 i + (mis t (B 1 i) p (B 2 i).toNat : Int) * B 13 0
def fit (B : Nat → Nat → Int) (t : Nat → Int) (i p : Nat) : Prop := mis t (B 1 i) p (B 2 i).toNat ≤ 1
/-- the book's numbers are in their ranges -/
def GB (B : Nat → Nat → Int) : Prop :=
  (∀ k i, k ≠ 4 → k ≠ 5 → k ≠ 9 → inI (B k i)) ∧ (∀ s, s < 50 → 0 ≤ B 0 s ∧ B 0 s ≤ 3) ∧ (∀ i, i < 150 → 0 ≤ B 2 i ∧ B 2 i ≤ 4 ∧ 0 ≤ B 3 i ∧ B 3 i ≤ 40) ∧
  (∀ s j : Nat, s < 50 → (j : Int) < B 0 s → ∃ n : Nat, isR 5 4 26 (B 1 (3 * s + j)) n ∧ B 2 (3 * s + j) = n) ∧ (∀ i, i < 3 → 0 ≤ B 13 i ∧ B 13 i ≤ 200)
theorem pz5 (r : Int) (k : Nat) : r / 2 ^ (5 * k) % 32 = pz 5 r k := rfl
set_option maxHeartbeats 1000000 in
theorem q_priceAt {B : Nat → Nat → Int} {t : Nat → Int} (hB : GB B) (ht : ∀ k, inI (t k)) {i p : Nat} (hi : i < 150) (hp : p + (B 2 i).toNat ≤ 36) {x1 x2 : Int} (e1 : x1 = i) (e2 : x2 = p) : wp (m_X6_priceAt x1 x2 (B 1) (B 2) (B 3) (B 13) t) (fun v => (fit B t i p ∧ v = prc B t i p) ∨ (¬ fit B t i p ∧ v = 268435456)) := by
  obtain ⟨hI, _, h2, _, h13⟩ := hB
  obtain ⟨l0, l1, p0, p1⟩ := h2 i hi
  have ex1 : x1.toNat = i := by omega
  unfold m_X6_priceAt
  rw [ex1]
  refine wp_gd (by omega) (wp_vl (wp_gd (by omega) (wp_vl ?_)))
  refine wp_bind (P := fun u : Nat × Int × Int => (u.2.1 ≤ 1 ∧ fit B t i p ∧ u.2.1 = (mis t (B 1 i) p (B 2 i).toNat : Int)) ∨ (1 < u.2.1 ∧ ¬ fit B t i p ∧ u.2.1 < 100)) (wp_loop (fun k a => a.2 = (k : Int) ∧ a.1 = (mis t (B 1 i) p k : Int) ∧ mis t (B 1 i) p k ≤ k) (B 2 i).toNat (by omega) ⟨rfl, rfl, Nat.le_refl _⟩ ?_) ?_
  · intro k a hk hs
    obtain ⟨e3, e4, hle⟩ := hs
    unfold m_X6_priceAt_27
    refine wp_gd (by omega) (wp_gd (by omega) (wp_if (fun c1 => ?_) (fun c1 => ?_)))
    · have hkl : k = (B 2 i).toNat := by omega
      refine wp_end (by decide) ?_
      show (a.1 ≤ 1 ∧ fit B t i p ∧ a.1 = _) ∨ _
      rw [e4, hkl]
      by_cases hf : fit B t i p
      · refine Or.inl ⟨?_, hf, rfl⟩
        unfold fit at hf
        omega
      · refine Or.inr ⟨?_, hf, ?_⟩
        · unfold fit at hf
          show (1 : Int) < (mis t (B 1 i) p (B 2 i).toNat : Int)
          omega
        · show (mis t (B 1 i) p (B 2 i).toNat : Int) < 100
          rw [← hkl]
          omega
    · refine wp_gd (by omega) (wp_if (fun c2 => ?_) (fun c2 => ?_))
      · refine wp_end (by decide) (Or.inr ⟨c2, ?_, by show a.1 < 100; omega⟩)
        intro hf
        unfold fit at hf
        have := mis_mono t (B 1 i) p hk
        omega
      · have e5 : (a.2 * 5).toNat = 5 * k := by omega
        have e6 : (x2 + a.2).toNat = p + k := by omega
        rw [e5, e6, pz5]
        have h5 := pz_nonneg 5 (B 1 i) k
        have h6 := pz_lt 5 (B 1 i) k
        have h7 : (2 : Int) ^ 5 = 32 := by decide
        refine wp_gd (hI 1 i (by decide) (by decide) (by decide)) (wp_gd (by omega) (wp_gd (by omega) (wp_gd (by omega) (wp_gd (ht _) (wp_if (fun c3 => ?_) (fun c3 => ?_))))))
        · refine wp_vl (wp_go ⟨by omega, by show a.2 + 1 = _; omega, ?_, ?_⟩)
          · show a.1 = ((mis t (B 1 i) p k + (if pz 5 (B 1 i) k = t (p + k) then 0 else 1) : Nat) : Int)
            rw [if_pos c3]
            omega
          · show mis t (B 1 i) p k + (if pz 5 (B 1 i) k = t (p + k) then 0 else 1) ≤ k + 1
            rw [if_pos c3]
            omega
        · refine wp_vl (wp_vl (wp_go ⟨by omega, by show a.2 + 1 = _; omega, ?_, ?_⟩))
          · show a.1 + 1 = ((mis t (B 1 i) p k + (if pz 5 (B 1 i) k = t (p + k) then 0 else 1) : Nat) : Int)
            rw [if_neg c3]
            omega
          · show mis t (B 1 i) p k + (if pz 5 (B 1 i) k = t (p + k) then 0 else 1) ≤ k + 1
            rw [if_neg c3]
            omega
  · rintro ⟨t9, x5, x6⟩ hu
    have hu : (x5 ≤ 1 ∧ fit B t i p ∧ x5 = (mis t (B 1 i) p (B 2 i).toNat : Int)) ∨ (1 < x5 ∧ ¬ fit B t i p ∧ x5 < 100) := hu
    show wp (m_X6_priceAt_73 x1 x5 (B 1) (B 2) (B 3) (B 13) t) _
    unfold m_X6_priceAt_73
    rcases hu with ⟨g1, g2, g3⟩ | ⟨g1, g2, g3⟩
    · refine wp_gd (by omega) (wp_if (fun c => ?_) (fun c => absurd g1 c))
      rw [ex1]
      refine wp_gd (by omega) (wp_some (Or.inl ⟨g2, ?_⟩))
      rw [g3]
      rfl
    · exact wp_gd (by omega) (wp_if (fun c => absurd c (by omega)) (fun c => wp_some (Or.inr ⟨g2, rfl⟩)))
theorem prc_bd {B : Nat → Nat → Int} {t : Nat → Int} (hB : GB B) {i p : Nat} (hi : i < 150) (hf : fit B t i p) : 0 ≤ prc B t i p ∧ prc B t i p ≤ 240 := by
  obtain ⟨_, _, h2, _, h13⟩ := hB
  obtain ⟨_, _, p0, p1⟩ := h2 i hi
  obtain ⟨s0, s1⟩ := h13 0 (by decide)
  unfold fit at hf
  unfold prc
  rcases (show mis t (B 1 i) p (B 2 i).toNat = 0 ∨ mis t (B 1 i) p (B 2 i).toNat = 1 by omega) with h | h <;> rw [h] <;> omega
/-- a stretch spelt by a row of sounds, at a cost -/
def spR (B : Nat → Nat → Int) (t : Nat → Int) : List Nat → Nat → Nat → Int → Prop
  | [], a, b, x => a = b ∧ x = 0
  | s :: ss, a, b, x => ∃ (j : Nat) (y : Int), (j : Int) < B 0 s ∧ fit B t (3 * s + j) a ∧ spR B t ss (a + (B 2 (3 * s + j)).toNat) b y ∧ x = prc B t (3 * s + j) a + y
/-- .. and what stands behind it -/
def wkS (B : Nat → Nat → Int) (t : Nat → Int) (Z : Nat → Int → Prop) (ss : List Nat) (p : Nat) (x : Int) : Prop := ∃ (q : Nat) (y z : Int), spR B t ss p q y ∧ Z q z ∧ x = 16 * y + z
theorem wkS_cons {B : Nat → Nat → Int} {t : Nat → Int} {Z : Nat → Int → Prop} {s : Nat} {ss : List Nat} {p : Nat} {x : Int} : wkS B t Z (s :: ss) p x ↔ ∃ (j : Nat) (y : Int), (j : Int) < B 0 s ∧ fit B t (3 * s + j) p ∧ wkS B t Z ss (p + (B 2 (3 * s + j)).toNat) y ∧ x = 16 * prc B t (3 * s + j) p + y := by
  constructor
  · rintro ⟨q, y, z, ⟨j, y2, h1, h2, h3, rfl⟩, h4, rfl⟩
    exact ⟨j, 16 * y2 + z, h1, h2, ⟨q, y2, z, h3, h4, rfl⟩, by omega⟩
  · rintro ⟨j, y, h1, h2, ⟨q, y2, z, h3, h4, rfl⟩, rfl⟩
    exact ⟨q, prc B t (3 * s + j) p + y2, z, ⟨j, y2, h1, h2, h3, rfl⟩, h4, by omega⟩
theorem spR_bd {B : Nat → Nat → Int} {t : Nat → Int} (hB : GB B) : ∀ (ss : List Nat), (∀ s ∈ ss, s < 50) → ∀ (a b : Nat) (x : Int), spR B t ss a b x → 0 ≤ x ∧ x ≤ 240 * (ss.length : Int) ∧ a ≤ b := by
  intro ss
  induction ss with
  | nil =>
    rintro _ a b x ⟨h1, h2⟩
    refine ⟨by omega, ?_, by omega⟩
    rw [h2]
    simp
  | cons s ss ih =>
    rintro hs a b x ⟨j, y, h1, h2, h3, rfl⟩
    obtain ⟨g1, g2, g3⟩ := ih (fun s' h => hs s' (List.mem_cons_of_mem _ h)) _ _ _ h3
    have hs50 := hs s List.mem_cons_self
    have h0 := hB.2.1 s hs50
    have hp := prc_bd (i := 3 * s + j) (p := a) hB (by omega) h2
    refine ⟨by omega, ?_, by omega⟩
    rw [List.length_cons]
    push_cast
    omega
/-- the value that a walk knows of a place -/
def vw (now : Nat → Int) (low high : Int) (p : Nat) : Int := if low ≤ (p : Int) ∧ (p : Int) ≤ high then now p else 268435456
def WO (B : Nat → Nat → Int) (t : Nat → Int) (Z : Nat → Int → Prop) (ss : List Nat) (now : Nat → Int) (low high : Int) : Prop := ∀ p : Nat, p ≤ 36 → Lst (wkS B t Z ss p) 268435456 (vw now low high p)
theorem wkS_bd {B : Nat → Nat → Int} {t : Nat → Int} {Z : Nat → Int → Prop} (hB : GB B) (hZ : ∀ q z, Z q z → 0 ≤ z ∧ z < 20000 ∧ q ≤ 36) {ss : List Nat} (hs : ∀ s ∈ ss, s < 50) (hl : ss.length ≤ 9) {p : Nat} {x : Int} (h : wkS B t Z ss p x) : 0 ≤ x ∧ x < 60000 ∧ p ≤ 36 := by
  obtain ⟨q, y, z, h1, h2, rfl⟩ := h
  have := spR_bd hB ss hs _ _ _ h1
  have := hZ q z h2
  omega
end
section
/-! one sound backwards -/
/-- what pushes got to a place so far: from places ahead of pl, and from pl by its first m spellings -/
def psh (B : Nat → Nat → Int) (t now : Nat → Int) (low : Int) (s pl m q : Nat) (x : Int) : Prop := ∃ (p j : Nat), low ≤ (p : Int) ∧ (p < pl ∨ (p = pl ∧ j < m)) ∧ (j : Int) < B 0 s ∧ q + (B 2 (3 * s + j)).toNat = p ∧ fit B t (3 * s + j) q ∧ now p ≠ 268435456 ∧ x = now p + 16 * prc B t (3 * s + j) q
def PI (B : Nat → Nat → Int) (t now : Nat → Int) (low high : Int) (s pl m : Nat) (x2 x3 : Int) (next : Nat → Int) : Prop :=
  (∀ q : Nat, low - 4 ≤ (q : Int) → (q : Int) < high → Lst (psh B t now low s pl m q) 268435456 (next q)) ∧ (∀ q : Nat, low - 4 ≤ (q : Int) → (q : Int) < high → next q ≠ 268435456 → x2 ≤ q ∧ (q : Int) ≤ x3) ∧ low - 4 ≤ x2 ∧ 0 ≤ x2 ∧ x2 ≤ high ∧ -1 ≤ x3 ∧ x3 < high ∧ ∀ i, inI (next i)
theorem PI.same {B : Nat → Nat → Int} {t now : Nat → Int} {low high : Int} {s pl m pl' m' : Nat} {x2 x3 : Int} {next : Nat → Int} (h : PI B t now low high s pl m x2 x3 next) (hS : ∀ q x, psh B t now low s pl' m' q x ↔ psh B t now low s pl m q x) : PI B t now low high s pl' m' x2 x3 next := ⟨fun q h1 h2 => (h.1 q h1 h2).iff (hS q), h.2⟩
theorem psh_no {B : Nat → Nat → Int} {t now : Nat → Int} {low : Int} {s pl m : Nat} (h : ∀ q, q + (B 2 (3 * s + m)).toNat = pl → ¬ fit B t (3 * s + m) q) : ∀ q x, psh B t now low s pl (m + 1) q x ↔ psh B t now low s pl m q x := by
  intro q x
  constructor
  · rintro ⟨p, j, a1, a2, a3, a4, a5, a6, a7⟩
    refine ⟨p, j, a1, ?_, a3, a4, a5, a6, a7⟩
    by_cases hj : p = pl ∧ j = m
    · obtain ⟨rfl, rfl⟩ := hj
      exact absurd a5 (h q a4)
    · omega
  · rintro ⟨p, j, a1, a2, a3⟩
    exact ⟨p, j, a1, by omega, a3⟩
theorem psh_one {B : Nat → Nat → Int} {t now : Nat → Int} {low : Int} {s pl m q0 : Nat} (hl : low ≤ (pl : Int)) (hq : q0 + (B 2 (3 * s + m)).toNat = pl) (hf : fit B t (3 * s + m) q0) (hj : (m : Int) < B 0 s) (hn : now pl ≠ 268435456) : ∀ q x, psh B t now low s pl (m + 1) q x ↔ psh B t now low s pl m q x ∨ (q = q0 ∧ x = now pl + 16 * prc B t (3 * s + m) q0) := by
  intro q x
  constructor
  · rintro ⟨p, j, a1, a2, a3, a4, a5, a6, a7⟩
    by_cases hj : p = pl ∧ j = m
    · obtain ⟨rfl, rfl⟩ := hj
      have hqq : q = q0 := by omega
      subst hqq
      exact Or.inr ⟨rfl, a7⟩
    · exact Or.inl ⟨p, j, a1, by omega, a3, a4, a5, a6, a7⟩
  · rintro (⟨p, j, a1, a2, a3⟩ | ⟨rfl, rfl⟩)
    · exact ⟨p, j, a1, by omega, a3⟩
    · exact ⟨pl, m, hl, Or.inr ⟨rfl, by omega⟩, hj, hq, hf, hn, rfl⟩
theorem PI.push {B : Nat → Nat → Int} {t now : Nat → Int} {low high : Int} {s pl m q0 : Nat} {x2 x3 x2' x3' c : Int} {next next' : Nat → Int} (h : PI B t now low high s pl m x2 x3 next) (hl : low ≤ (pl : Int)) (hq : q0 + (B 2 (3 * s + m)).toNat = pl) (hf : fit B t (3 * s + m) q0) (hj : (m : Int) < B 0 s) (hn : now pl ≠ 268435456) (ec : c = now pl + 16 * prc B t (3 * s + m) q0) (hc : 0 ≤ c ∧ c < 268435456)
    (h' : ∀ q, next' q = if q = q0 then min (next q0) c else next q) (g1 : x2' ≤ x2) (g2 : x3 ≤ x3') (g3 : x2' ≤ q0 ∧ (q0 : Int) ≤ x3') (g4 : low - 4 ≤ x2' ∧ 0 ≤ x2' ∧ x2' ≤ high ∧ -1 ≤ x3' ∧ x3' < high) : PI B t now low high s pl (m + 1) x2' x3' next' := by
  obtain ⟨a1, a2, -, -, -, -, -, a3⟩ := h
  refine ⟨fun q h1 h2 => ?_, fun q h1 h2 h3 => ?_, g4.1, g4.2.1, g4.2.2.1, g4.2.2.2.1, g4.2.2.2.2, fun i => ?_⟩
  · rw [h' q]
    by_cases hqq : q = q0
    · rw [if_pos hqq]
      subst hqq
      refine (a1 q h1 h2).push hc.2 (fun x => ?_)
      rw [psh_one hl hq hf hj hn, ec]
      constructor
      · rintro (z | ⟨_, z⟩)
        · exact Or.inl z
        · exact Or.inr z
      · rintro (z | z)
        · exact Or.inl z
        · exact Or.inr ⟨rfl, z⟩
    · rw [if_neg hqq]
      refine (a1 q h1 h2).iff (fun x => ?_)
      rw [psh_one hl hq hf hj hn]
      constructor
      · rintro (z | ⟨z, _⟩)
        · exact z
        · exact absurd z hqq
      · exact Or.inl
  · rw [h' q] at h3
    by_cases hqq : q = q0
    · subst hqq
      exact g3
    · rw [if_neg hqq] at h3
      have := a2 q h1 h2 h3
      omega
  · rw [h' i]
    by_cases hi : i = q0
    · rw [if_pos hi]
      have := a3 q0
      omega
    · rw [if_neg hi]
      exact a3 i
set_option maxHeartbeats 2000000 in
theorem q_stepIn {B : Nat → Nat → Int} {t : Nat → Int} {Z : Nat → Int → Prop} {ss : List Nat} {now next : Nat → Int} {low high : Int} (hB : GB B) (ht : ∀ k, inI (t k)) (hZ : ∀ q z, Z q z → 0 ≤ z ∧ z < 20000 ∧ q ≤ 36) (hs : ∀ s ∈ ss, s < 50) (hlen : ss.length ≤ 9) (hW : WO B t Z ss now low high) (h0 : 0 ≤ low) (h36 : high ≤ 36) {s pl m : Nat} (hs50 : s < 50) (hpl : low ≤ (pl : Int) ∧ (pl : Int) ≤ high) (hN : ∀ i, inI (now i)) (nA xA : Nat) {x2 x3 x4 x5 x6 x7 : Int} (e5 : x5 = ((3 * s : Nat) : Int) + B 0 s) (e6 : x6 = pl) (e7 : x7 = ((3 * s + m : Nat) : Int)) (hm : (m : Int) ≤ B 0 s) (h : PI B t now low high s pl m x2 x3 next) :
    wp (m_X6_stepBack_78 x2 x3 x4 x5 x6 x7 (B 0) (B 1) (B 2) (B 3) (B 13) t now nA next xA low high) (fun u => (u.1 = 0 → (m : Int) < B 0 s ∧ u.2.2.2.1 = ((3 * s + (m + 1) : Nat) : Int) ∧ PI B t now low high s pl (m + 1) u.2.1 u.2.2.1 u.2.2.2.2) ∧ (u.1 ≠ 0 → PI B t now low high s (pl + 1) 0 u.2.1 u.2.2.1 u.2.2.2.2)) := by
  have hb0 := hB.2.1 s hs50
  have en : x6.toNat = pl := by omega
  have ei : x7.toNat = 3 * s + m := by omega
  obtain ⟨b1, b2, b3, b4, b5, b6, b7, b8⟩ := id h
  unfold m_X6_stepBack_78
  rw [en, ei]
  refine wp_gd (by omega) (wp_gd (by omega) (wp_if (fun c1 => ?_) (fun c1 => ?_)))
  · refine wp_some ⟨fun z => absurd z Nat.one_ne_zero, fun _ => h.same (fun q x => ?_)⟩
    constructor
    · rintro ⟨p, j, a1, a2, a3, a4⟩
      exact ⟨p, j, a1, by omega, a3, a4⟩
    · rintro ⟨p, j, a1, a2, a3, a4⟩
      exact ⟨p, j, a1, by omega, a3, a4⟩
  · refine wp_gd (by omega) (wp_gd (hN _) (wp_if (fun c2 => ?_) (fun c2 => ?_)))
    · refine wp_some ⟨fun z => absurd z Nat.one_ne_zero, fun _ => h.same (fun q x => ?_)⟩
      constructor
      · rintro ⟨p, j, a1, a2, a3, a4, a5, a6, a7⟩
        have hne : p ≠ pl := fun z => a6 (by rw [z]; exact c2)
        exact ⟨p, j, a1, by omega, a3, a4, a5, a6, a7⟩
      · rintro ⟨p, j, a1, a2, a3, a4, a5, a6, a7⟩
        have hne : p ≠ pl := fun z => a6 (by rw [z]; exact c2)
        exact ⟨p, j, a1, by omega, a3, a4, a5, a6, a7⟩
    · have hmlt : (m : Int) < B 0 s := by omega
      obtain ⟨n, hn1, hn2⟩ := hB.2.2.2.1 s m hs50 hmlt
      have hn3 := hn1.1
      have hn4 := hn1.2.1
      have eln : (B 2 (3 * s + m)).toNat = n := by omega
      have hnow : 0 ≤ now pl ∧ now pl < 60000 := by
        have h1 := hW pl (by omega)
        unfold vw at h1
        rw [if_pos hpl] at h1
        have := wkS_bd hB hZ hs hlen (h1.mem c2)
        omega
      refine wp_gd (by omega) (wp_vl (wp_gd (by omega) (wp_if (fun c3 => ?_) (fun c3 => ?_))))
      · refine wp_bind (q_priceAt (i := 3 * s + m) (p := pl - n) hB ht (by omega) (by omega) e7 (by omega)) ?_
        intro r hr
        unfold m_X6_stepBack_130
        rcases hr with ⟨hf, rfl⟩ | ⟨hf, rfl⟩
        · have hpr := prc_bd (i := 3 * s + m) hB (by omega) hf
          have e8 : (x6 - B 2 (3 * s + m)).toNat = pl - n := by omega
          have b8' := b8 (pl - n)
          refine wp_gd (by omega) (wp_if (fun z => absurd z (by omega)) (fun _ => ?_))
          rw [en, e8]
          refine wp_gd (by omega) (wp_gd (by omega) (wp_gd (by omega) (wp_gd b8' (wp_if (fun c4 => ?_) (fun c4 => ?_)))))
          · have hw := b2 (pl - n) (by omega) (by omega) (by omega)
            refine wp_vl (wp_some ⟨fun _ => ⟨hmlt, by show x7 + 1 = _; omega, ?_⟩, fun z => absurd rfl z⟩)
            refine h.push hpl.1 (q0 := pl - n) (by omega) hf hmlt c2 rfl (by omega) (fun q => ?_) (Int.le_refl _) (Int.le_refl _) hw ⟨b3, b4, b5, b6, b7⟩
            show next q = if q = pl - n then min (next (pl - n)) (now pl + 16 * prc B t (3 * s + m) (pl - n)) else next q
            by_cases hq : q = pl - n
            · rw [if_pos hq, hq]
              omega
            · rw [if_neg hq]
          · refine wp_gd (by omega) (wp_gd (by omega) (wp_vl (wp_gd (by omega) (wp_if (fun c5 => ?_) (fun c5 => ?_)))))
            all_goals
              unfold m_X6_stepBack_192
              refine wp_gd (by omega) (wp_gd (by omega) (wp_if (fun c6 => ?_) (fun c6 => ?_)))
            all_goals
              refine wp_vl (wp_some ⟨fun _ => ⟨hmlt, by show x7 + 1 = _; omega, ?_⟩, fun z => absurd rfl z⟩)
              refine h.push hpl.1 (q0 := pl - n) (by omega) hf hmlt c2 rfl (by omega) (fun q => ?_) ?_ ?_ ?_ ?_
              · show uz next (pl - n) _ q = _
                by_cases hq : q = pl - n
                · rw [if_pos hq, hq, uz_at]
                  omega
                · rw [if_neg hq, uz_ne _ _ hq]
              all_goals dsimp only
              all_goals omega
        · refine wp_gd (by decide) (wp_if (fun _ => ?_) (fun z => absurd rfl z))
          refine wp_vl (wp_some ⟨fun _ => ⟨hmlt, by show x7 + 1 = _; omega, h.same (psh_no (fun q hq => ?_))⟩, fun z => absurd rfl z⟩)
          have : q = pl - n := by omega
          rw [this]
          exact hf
      · unfold m_X6_stepBack_130
        refine wp_gd (by decide) (wp_if (fun _ => ?_) (fun z => absurd rfl z))
        exact wp_vl (wp_some ⟨fun _ => ⟨hmlt, by show x7 + 1 = _; omega, h.same (psh_no (fun q hq => by omega))⟩, fun z => absurd rfl z⟩)
set_option maxHeartbeats 2000000 in
theorem q_stepBack {B : Nat → Nat → Int} {t : Nat → Int} {Z : Nat → Int → Prop} {ss : List Nat} {now next : Nat → Int} {low high : Int} (hB : GB B) (ht : ∀ k, inI (t k)) (hZ : ∀ q z, Z q z → 0 ≤ z ∧ z < 20000 ∧ q ≤ 36) (hs : ∀ s ∈ ss, s < 50) (hlen : ss.length ≤ 9) (hW : WO B t Z ss now low high) (h0 : 0 ≤ low) (h36 : high ≤ 36) (hlh : low ≤ high) {s : Nat} (hs50 : s < 50) (hN : ∀ i, inI (now i)) (hX : ∀ i, inI (next i)) (nA xA : Nat) {x1 : Int} (e1 : x1 = s) :
    wp (m_X6_stepBack x1 (B 0) (B 1) (B 2) (B 3) (B 13) t now nA next xA low high) (fun u => WO B t Z (s :: ss) u.1 u.2.2.2.2.1 u.2.2.2.2.2 ∧ (∀ i, inI (u.1 i)) ∧ (∀ i, inI (u.2.2.1 i)) ∧ 0 ≤ u.2.2.2.2.1 ∧ u.2.2.2.2.1 ≤ 36 ∧ -1 ≤ u.2.2.2.2.2 ∧ u.2.2.2.2.2 ≤ 36) := by
  have hb0 := hB.2.1 s hs50
  have es : x1.toNat = s := by omega
  unfold m_X6_stepBack
  refine wp_gd (by omega) (wp_vl ?_)
  obtain ⟨lo, elo⟩ : ∃ lo : Nat, (lo : Int) = max 0 (low - 4) := ⟨(max 0 (low - 4)).toNat, by omega⟩
  refine wp_bind (P := fun u : Nat × Int × (Nat → Int) => u.2.2 = fz next lo high.toNat 268435456) (wp_loop (fun k a => a.1 = ((lo + k : Nat) : Int) ∧ a.2 = fz next lo (lo + k) 268435456) (high.toNat - lo) (by omega) ⟨by show max 0 (low - 4) = _; omega, (fz_nil next 268435456 (by omega)).symm⟩ ?_) ?_
  · intro k a hk hs2
    obtain ⟨a1, a2⟩ := hs2
    unfold m_X6_stepBack_11
    refine wp_gd (by omega) (wp_gd (by omega) (wp_if (fun c1 => ?_) (fun c1 => ?_)))
    · refine wp_end (by decide) ?_
      show a.2 = _
      rw [a2, show lo + k = high.toNat by omega]
    · refine wp_gd (by omega) (wp_vl (wp_vl (wp_go ⟨by omega, by show a.1 + 1 = _; omega, ?_⟩)))
      show uz a.2 a.1.toNat 268435456 = _
      rw [a2, show a.1.toNat = lo + k by omega, fz_step next 268435456 (by omega)]
      rfl
  · rintro ⟨t11, y2, nx⟩ hnx
    have hnx : nx = fz next lo high.toNat 268435456 := hnx
    subst hnx
    refine wp_vl (wp_gd (by omega) (wp_vl ?_))
    rw [es]
    refine wp_bind (P := fun u : Nat × Int × Int × Int × (Nat → Int) => PI B t now low high s (high.toNat + 1) 0 u.2.1 u.2.2.1 u.2.2.2.2) (wp_loop (fun k a => a.2.2.1 = low + k ∧ PI B t now low high s (low.toNat + k) 0 a.1 a.2.1 a.2.2.2) (high - low + 1).toNat (by omega) ⟨by show low = _; omega, ?_⟩ ?_) ?_
    · refine ⟨fun q h1 h2 => ?_, fun q h1 h2 h3 => absurd (fz_in next 268435456 (show lo ≤ q ∧ q < high.toNat by omega)) h3, by show _ ≤ high; omega, by show 0 ≤ high; omega, Int.le_refl _, Int.le_refl _, by show (-1 : Int) < high; omega, fz_inI hX (by decide)⟩
      show Lst _ 268435456 (fz next lo high.toNat 268435456 q)
      rw [fz_in next 268435456 (by omega)]
      refine Lst.none ?_
      rintro x ⟨p, j, a1, a2, a3, a4⟩
      omega
    · intro k a hk hs2
      obtain ⟨a1, a2⟩ := hs2
      unfold m_X6_stepBack_65
      refine wp_gd (by omega) (wp_gd (by omega) (wp_if (fun c1 => ?_) (fun c1 => ?_)))
      · refine wp_end (by decide) ?_
        show PI B t now low high s (high.toNat + 1) 0 a.1 a.2.1 a.2.2.2
        rw [show high.toNat + 1 = low.toNat + k by omega]
        exact a2
      · refine wp_bind (P := fun u : Nat × Int × Int × Int × (Nat → Int) => PI B t now low high s (low.toNat + k + 1) 0 u.2.1 u.2.2.1 u.2.2.2.2) (wp_loop (fun m b => b.2.2.1 = ((3 * s + m : Nat) : Int) ∧ PI B t now low high s (low.toNat + k) m b.1 b.2.1 b.2.2.2) (B 0 s).toNat (by omega) ⟨by show x1 * 3 = _; omega, a2⟩ ?_) ?_
        · intro m b hm hs3
          obtain ⟨d1, d2⟩ := hs3
          refine wp_mono (q_stepIn hB ht hZ hs hlen hW h0 h36 hs50 (pl := low.toNat + k) (m := m) (by omega) hN nA xA (by omega) (by omega) d1 (by omega) d2) ?_
          intro u hu
          refine ⟨fun z => ?_, hu.2⟩
          obtain ⟨f1, f2, f3⟩ := hu.1 z
          exact ⟨by omega, f2, f3⟩
        · rintro ⟨t78, y2', y3', y7', nx'⟩ hu
          refine wp_vl (wp_go ⟨by omega, by show a.2.2.1 + 1 = _; omega, ?_⟩)
          exact hu
    · rintro ⟨t65, z2, z3, z6, nx'⟩ hu
      have hu : PI B t now low high s (high.toNat + 1) 0 z2 z3 nx' := hu
      obtain ⟨b1, b2, b3, b4, b5, b6, b7, b8⟩ := hu
      refine wp_some ⟨?_, b8, hN, b4, by show z2 ≤ 36; omega, b6, by show z3 ≤ 36; omega⟩
      show WO B t Z (s :: ss) nx' z2 z3
      intro q hq
      by_cases hr : low - 4 ≤ (q : Int) ∧ (q : Int) < high
      · have hL : Lst (wkS B t Z (s :: ss) q) 268435456 (nx' q) := by
          refine (b1 q hr.1 hr.2).dom ?_ ?_
          · rintro x ⟨p, j, a1, a2, a3, a4, a5, a6, a7⟩
            refine wkS_cons.mpr ⟨j, now p, a3, a5, ?_, by omega⟩
            rw [a4]
            have h1 := hW p (by omega)
            unfold vw at h1
            rw [if_pos (by omega)] at h1
            exact h1.mem a6
          · intro x hx
            obtain ⟨j, y, a1, a2, a3, a4⟩ := wkS_cons.mp hx
            have hbd := wkS_bd hB hZ hs hlen a3
            have h1 := (hW _ hbd.2.2).le a3
            unfold vw at h1
            by_cases hw : low ≤ ((q + (B 2 (3 * s + j)).toNat : Nat) : Int) ∧ ((q + (B 2 (3 * s + j)).toNat : Nat) : Int) ≤ high
            · rw [if_pos hw] at h1
              exact ⟨_, ⟨q + (B 2 (3 * s + j)).toNat, j, hw.1, by omega, a1, rfl, a2, by omega, rfl⟩, by omega⟩
            · rw [if_neg hw] at h1
              omega
        unfold vw
        by_cases hw : z2 ≤ (q : Int) ∧ (q : Int) ≤ z3
        · rw [if_pos hw]
          exact hL
        · rw [if_neg hw]
          have : nx' q = 268435456 := by
            by_cases h9 : nx' q = 268435456
            · exact h9
            · exact absurd (b2 q hr.1 hr.2 h9) hw
          rw [this] at hL
          exact hL
      · have hv : vw nx' z2 z3 q = 268435456 := by
          unfold vw
          rw [if_neg (by omega)]
        rw [hv]
        refine Lst.none ?_
        intro x hx
        obtain ⟨j, y, a1, a2, a3, a4⟩ := wkS_cons.mp hx
        have hbd := wkS_bd hB hZ hs hlen a3
        have h1 := (hW _ hbd.2.2).le a3
        obtain ⟨n, hn1, hn2⟩ := hB.2.2.2.1 s j hs50 a1
        have hn3 := hn1.1
        have hn4 := hn1.2.1
        unfold vw at h1
        by_cases hw : low ≤ ((q + (B 2 (3 * s + j)).toNat : Nat) : Int) ∧ ((q + (B 2 (3 * s + j)).toNat : Nat) : Int) ≤ high
        · omega
        · rw [if_neg hw] at h1
          omega
end
section
/-! a row of sounds backwards -/
def sn (r : Int) (i : Nat) : Nat := (pz 6 r i - 1).toNat
def pfx (r : Int) : Nat → List Nat
  | 0 => []
  | m + 1 => pfx r m ++ [sn r m]
def sfx (r : Int) (n : Nat) : Nat → List Nat
  | 0 => []
  | m + 1 => sn r (n - (m + 1)) :: sfx r n m
theorem pfx_sfx (r : Int) (n : Nat) : ∀ m, m ≤ n → pfx r (n - m) ++ sfx r n m = pfx r n := by
  intro m
  induction m with
  | zero =>
    intro _
    show pfx r n ++ [] = _
    rw [List.append_nil]
  | succ m ih =>
    intro hm
    rw [← ih (by omega), show n - m = (n - (m + 1)) + 1 by omega]
    show pfx r (n - (m + 1)) ++ (sn r (n - (m + 1)) :: sfx r n m) = (pfx r (n - (m + 1)) ++ [sn r (n - (m + 1))]) ++ sfx r n m
    rw [List.append_assoc]
    rfl
theorem sfx_all (r : Int) (n : Nat) : sfx r n n = pfx r n := by
  have h := pfx_sfx r n n (Nat.le_refl n)
  rw [Nat.sub_self] at h
  exact h
theorem pfx_len (r : Int) : ∀ m, (pfx r m).length = m := by
  intro m
  induction m with
  | zero => rfl
  | succ m ih =>
    show (pfx r m ++ [sn r m]).length = m + 1
    rw [List.length_append, ih]
    rfl
theorem sfx_len (r : Int) (n : Nat) : ∀ m, (sfx r n m).length = m := by
  intro m
  induction m with
  | zero => rfl
  | succ m ih =>
    show (sfx r n m).length + 1 = m + 1
    rw [ih]
theorem pfx_lt {most : Nat} {r : Int} {n : Nat} (h : isR 6 most 50 r n) : ∀ m, m ≤ n → ∀ s ∈ pfx r m, s < 50 := by
  intro m
  induction m with
  | zero =>
    intro _ s hs
    cases hs
  | succ m ih =>
    intro hm s hs
    rcases List.mem_append.mp hs with h1 | h1
    · exact ih (by omega) s h1
    · have h2 := h.2.2.2.1 m (by omega)
      have : s = sn r m := List.mem_singleton.mp h1
      rw [this]
      unfold sn
      omega
theorem sfx_lt {most : Nat} {r : Int} {n : Nat} (h : isR 6 most 50 r n) (m : Nat) (hm : m ≤ n) : ∀ s ∈ sfx r n m, s < 50 := by
  intro s hs
  refine pfx_lt h n (Nat.le_refl n) s ?_
  rw [← pfx_sfx r n m hm]
  exact List.mem_append_right _ hs
theorem wkS_le {B : Nat → Nat → Int} {t : Nat → Int} {Z : Nat → Int → Prop} (hB : GB B) (hZ : ∀ q z, Z q z → 0 ≤ z ∧ z < 20000 ∧ q ≤ 36) {ss : List Nat} (hs : ∀ s ∈ ss, s < 50) {p : Nat} {x : Int} (h : wkS B t Z ss p x) : p ≤ 36 := by
  obtain ⟨q, y, z, h1, h2, rfl⟩ := h
  have := spR_bd hB ss hs _ _ _ h1
  have := hZ q z h2
  omega
theorem wkS_dead {B : Nat → Nat → Int} {t : Nat → Int} {Z : Nat → Int → Prop} {ss : List Nat} (h : ∀ p x, ¬ wkS B t Z ss p x) : ∀ (ss' : List Nat) (p : Nat) (x : Int), ¬ wkS B t Z (ss' ++ ss) p x := by
  intro ss'
  induction ss' with
  | nil => exact h
  | cons s ss' ih =>
    intro p x hx
    obtain ⟨j, y, _, _, h3, _⟩ := wkS_cons.mp hx
    exact ih _ _ h3
theorem WO.dead {B : Nat → Nat → Int} {t : Nat → Int} {Z : Nat → Int → Prop} (hB : GB B) (hZ : ∀ q z, Z q z → 0 ≤ z ∧ z < 20000 ∧ q ≤ 36) {ss : List Nat} (hs : ∀ s ∈ ss, s < 50) {now : Nat → Int} {low high : Int} (h : WO B t Z ss now low high) (hd : high < low) (ss' : List Nat) : WO B t Z (ss' ++ ss) now low high := by
  have hv : ∀ p : Nat, vw now low high p = 268435456 := by
    intro p
    unfold vw
    rw [if_neg (by omega)]
  have hno : ∀ p x, ¬ wkS B t Z ss p x := by
    intro p x hx
    have h1 := h p (wkS_le hB hZ hs hx)
    rw [hv p] at h1
    exact h1.no x hx
  intro p _
  rw [hv p]
  exact Lst.none (wkS_dead hno ss' p)
/-- the walker's rows and bounds are in their ranges -/
def spOk (now next : Nat → Int) (low high : Int) : Prop := (∀ i, inI (now i)) ∧ (∀ i, inI (next i)) ∧ 0 ≤ low ∧ low ≤ 36 ∧ -1 ≤ high ∧ high ≤ 36
set_option maxHeartbeats 2000000 in
theorem q_walkBack {B : Nat → Nat → Int} {t : Nat → Int} {Z : Nat → Int → Prop} {ss : List Nat} {now next : Nat → Int} {low high r x3 : Int} (hB : GB B) (ht : ∀ k, inI (t k)) (hZ : ∀ q z, Z q z → 0 ≤ z ∧ z < 20000 ∧ q ≤ 36) (hs : ∀ s ∈ ss, s < 50) {most n : Nat} (hmost : most = 6 ∨ most = 3) (e3 : x3 = most) (hr : isR 6 most 50 r n) (hrL : inL r) (hlen : ss.length + n ≤ 9) (hW : WO B t Z ss now low high) (hok : spOk now next low high) (nA xA : Nat) :
    wp (m_X6_walkBack r x3 (B 0) (B 1) (B 2) (B 3) (B 13) t now nA next xA low high) (fun u => WO B t Z (pfx r n ++ ss) u.1 u.2.2.2.2.1 u.2.2.2.2.2 ∧ spOk u.1 u.2.2.1 u.2.2.2.2.1 u.2.2.2.2.2) := by
  unfold m_X6_walkBack
  have hnm := hr.2.1
  refine wp_vl (wp_bind (P := fun u : Nat × Int × (Nat → Int) × Nat × (Nat → Int) × Nat × Int × Int => WO B t Z (pfx r n ++ ss) u.2.2.1 u.2.2.2.2.2.2.1 u.2.2.2.2.2.2.2 ∧ spOk u.2.2.1 u.2.2.2.2.1 u.2.2.2.2.2.2.1 u.2.2.2.2.2.2.2) (wp_loop (fun k a => a.1 = (most : Int) - 1 - k ∧ WO B t Z (sfx r n (n - (most - k)) ++ ss) a.2.1 a.2.2.2.2.2.1 a.2.2.2.2.2.2 ∧ spOk a.2.1 a.2.2.2.1 a.2.2.2.2.2.1 a.2.2.2.2.2.2) most (by omega) ⟨by show x3 - 1 = _; omega, ?_, hok⟩ ?_) ?_)
  · show WO B t Z (sfx r n (n - (most - 0)) ++ ss) now low high
    rw [show n - (most - 0) = 0 by omega]
    exact hW
  · intro k a hk hst
    obtain ⟨e1, hw, ho⟩ := hst
    obtain ⟨o1, o2, o3, o4, o5, o6⟩ := id ho
    unfold m_X6_walkBack_5
    refine wp_gd (by omega) (wp_if (fun c1 => ?_) (fun c1 => ?_))
    · refine wp_end (by decide) ⟨?_, ho⟩
      have hk2 : k = most := by omega
      rw [hk2, show n - (most - most) = n by omega, sfx_all] at hw
      exact hw
    · refine wp_gd (by omega) (wp_gd (by omega) (wp_if (fun c2 => ?_) (fun c2 => ?_)))
      · refine wp_end (by decide) ⟨?_, ho⟩
        have hm : n - (most - k) ≤ n := by omega
        have h1 := hw.dead hB hZ (fun s h => (List.mem_append.mp h).elim (sfx_lt hr _ hm s) (hs s)) c2 (pfx r (n - (n - (most - k))))
        rw [← List.append_assoc, pfx_sfx r n _ hm] at h1
        exact h1
      · obtain ⟨i, ei⟩ : ∃ i : Nat, i = most - 1 - k := ⟨_, rfl⟩
        have e6 : (a.1 * 6).toNat = 6 * i := by omega
        have hz : zland (r / 2 ^ (6 * i)) 63 = pz 6 r i := zl_andm _ 6 63 (by decide) (by decide)
        have hp0 := pz_nonneg 6 r i
        have hp1 := pz_lt 6 r i
        have h64 : (2 : Int) ^ 6 = 64 := by decide
        rw [e6, hz]
        refine wp_gd hrL (wp_gd (by omega) (wp_vl (wp_gd (by omega) (wp_if (fun c3 => ?_) (fun c3 => ?_)))))
        · have hin : n ≤ i := by
            by_cases h9 : n ≤ i
            · exact h9
            · have := (hr.2.2.2.1 i (by omega)).1
              omega
          refine wp_vl (wp_go ⟨by omega, by show a.1 + -1 = _; omega, ?_, ho⟩)
          rw [show n - (most - (k + 1)) = n - (most - k) by omega]
          exact hw
        · have hin : i < n := by
            by_cases h9 : i < n
            · exact h9
            · have := pz_none hr.2.2.2.2 (show n ≤ i by omega)
              omega
          have hp2 := (hr.2.2.2.1 i hin).2
          have hm : n - (most - k) ≤ n := by omega
          refine wp_bind (q_stepBack (s := sn r i) hB ht hZ (fun s h => (List.mem_append.mp h).elim (sfx_lt hr _ hm s) (hs s)) (by rw [List.length_append, sfx_len]; omega) hw o3 o6 (by omega) (by unfold sn; omega) o1 o2 _ _ (by unfold sn; omega)) ?_
          rintro ⟨n1, n1A, n2, n2A, lo, hi⟩ ⟨g1, g2, g3, g4, g5, g6, g7⟩
          refine wp_vl (wp_go ⟨by omega, by show a.1 + -1 = _; omega, ?_, g2, g3, g4, g5, g6, g7⟩)
          have e9 : n - (most - (k + 1)) = (n - (most - k)) + 1 := by omega
          rw [e9]
          show WO B t Z (sn r (n - (n - (most - k) + 1)) :: (sfx r n (n - (most - k)) ++ ss)) n1 lo hi
          rw [show n - (n - (most - k) + 1) = i by omega]
          exact g1
  · rintro ⟨t5, x4, n1, n1A, n2, n2A, lo, hi⟩ hu
    exact wp_some hu
end
section
/-! what an entry costs over a stretch -/
def szf (b : Nat) (r : Int) : Nat → Nat → Nat
  | 0, k => k
  | f + 1, k => if pz b r k = 0 then k else szf b r f (k + 1)
def siz (b : Nat) (r : Int) : Nat := szf b r 6 0
theorem siz_of {b most : Nat} {top r : Int} {n : Nat} (hm : most ≤ 6) (h : isR b most top r n) : siz b r = n := by
  have key : ∀ f k, k ≤ n → n - k ≤ f → szf b r f k = n := by
    intro f
    induction f with
    | zero =>
      intro k h1 h2
      show k = n
      omega
    | succ f ih =>
      intro k h1 h2
      show (if pz b r k = 0 then k else szf b r f (k + 1)) = n
      by_cases hk : k = n
      · rw [if_pos (by rw [hk]; exact pz_none h.2.2.2.2 (Nat.le_refl n))]
        exact hk
      · have := (h.2.2.2.1 k (by omega)).1
        rw [if_neg (by omega)]
        exact ih (k + 1) (by omega) (by omega)
  have := h.2.1
  exact key 6 0 (Nat.zero_le _) (by omega)
def GW (B : Nat → Nat → Int) : Prop :=
  (0 ≤ B 18 0 ∧ B 18 0 ≤ 60) ∧ (0 ≤ B 18 1 ∧ B 18 1 ≤ 8) ∧
  (∀ w : Nat, (w : Int) < B 18 0 → (∃ n, isR 6 6 50 (B 4 w) n) ∧ (∃ n, isR 14 4 16383 (B 5 w) n) ∧ (0 ≤ B 6 w ∧ B 6 w ≤ 7) ∧ (-1 ≤ B 7 w ∧ B 7 w ≤ 5)) ∧
  (∀ e : Nat, (e : Int) < B 18 1 → (∃ n, isR 6 3 50 (B 9 e) n) ∧ (1 ≤ B 10 e ∧ B 10 e ≤ 16383) ∧ (0 ≤ B 11 e ∧ B 11 e ≤ 5) ∧ (0 ≤ B 12 e ∧ B 12 e ≤ 60)) ∧
  (∀ i, inL (B 4 i) ∧ inL (B 5 i) ∧ inL (B 9 i))
def EV (B : Nat → Nat → Int) (e : Int) : Prop := e = 540 ∨ (0 ≤ e ∧ e < 540 ∧ e / 9 < B 18 0 ∧ (e % 9 = 0 ∨ (e % 9 - 1 < B 18 1 ∧ B 11 (e % 9 - 1).toNat = B 7 (e / 9).toNat)))
def esd (B : Nat → Nat → Int) (e : Int) : List Nat := if e % 9 = 0 then [] else pfx (B 9 (e % 9 - 1).toNat) (siz 6 (B 9 (e % 9 - 1).toNat))
def sds (B : Nat → Nat → Int) (e : Int) : List Nat := pfx (B 4 (e / 9).toNat) (siz 6 (B 4 (e / 9).toNat)) ++ esd B e
def epr (B : Nat → Nat → Int) (e : Int) : Int := if e % 9 = 0 then 0 else B 12 (e % 9 - 1).toNat
def wct (B : Nat → Nat → Int) (w : Nat) : Int := B 13 2 - 8 * (bl (B 8 w) : Int)
def CL (B : Nat → Nat → Int) (t : Nat → Int) (e : Int) (a b : Nat) (x : Int) : Prop := if e = 540 then b = a + 1 ∧ x = B 13 1 else ∃ y, spR B t (sds B e) a b y ∧ x = wct B (e / 9).toNat + epr B e + y
theorem sds_ok {B : Nat → Nat → Int} (hW : GW B) {e : Int} (he : EV B e) (hn : e ≠ 540) : (∀ s ∈ sds B e, s < 50) ∧ (sds B e).length ≤ 9 ∧ (∀ s ∈ esd B e, s < 50) ∧ (esd B e).length ≤ 3 ∧ 0 ≤ epr B e ∧ epr B e ≤ 60 := by
  obtain ⟨_, _, h3, h4, _⟩ := hW
  rcases he with he | ⟨e0, e1, e2, e3⟩
  · exact absurd he hn
  · obtain ⟨⟨n, hw⟩, _⟩ := h3 (e / 9).toNat (by omega)
    have hsw := siz_of (by decide) hw
    have hwn := hw.2.1
    have hwlt := pfx_lt hw n (Nat.le_refl n)
    unfold sds esd epr
    rw [hsw]
    by_cases hm : e % 9 = 0
    · rw [if_pos hm, if_pos hm, List.append_nil]
      refine ⟨hwlt, ?_, fun s hs => absurd hs (List.not_mem_nil), by simp, by decide, by decide⟩
      rw [pfx_len]
      omega
    · rw [if_neg hm, if_neg hm]
      obtain ⟨⟨n2, hv⟩, _, _, hpr⟩ := h4 (e % 9 - 1).toNat (by omega)
      have hsv := siz_of (by decide) hv
      have hvn := hv.2.1
      have hvlt := pfx_lt hv n2 (Nat.le_refl n2)
      rw [hsv]
      refine ⟨fun s hs => (List.mem_append.mp hs).elim (hwlt s) (hvlt s), ?_, hvlt, ?_, hpr.1, hpr.2⟩
      · rw [List.length_append, pfx_len, pfx_len]
        omega
      · rw [pfx_len]
        omega
theorem CL_bd {B : Nat → Nat → Int} {t : Nat → Int} (hB : GB B) (hW : GW B) {e : Int} (he : EV B e) {a b : Nat} {x : Int} (h : CL B t e a b x) : -300 ≤ x ∧ x ≤ 3000 ∧ a ≤ b := by
  unfold CL at h
  by_cases hn : e = 540
  · rw [if_pos hn] at h
    have := hB.2.2.2.2 1 (by decide)
    omega
  · rw [if_neg hn] at h
    obtain ⟨y, h1, h2⟩ := h
    obtain ⟨g1, g2, _, _, g3, g4⟩ := sds_ok hW he hn
    have h3 := spR_bd hB _ g1 _ _ _ h1
    have h4 := hB.2.2.2.2 2 (by decide)
    have h5 := bl_le (B 8 (e / 9).toNat)
    unfold wct at h2
    omega
theorem WO_start {B : Nat → Nat → Int} {t now : Nat → Int} {b : Nat} {v : Int} (hv : v < 268435456) : WO B t (fun q z => q = b ∧ z = v) [] (uz now b v) b b := by
  intro p _
  have hS : ∀ x, wkS B t (fun q z => q = b ∧ z = v) [] p x ↔ (p = b ∧ x = v) := by
    intro x
    constructor
    · rintro ⟨q, y, z, ⟨h1, h2⟩, ⟨h3, h4⟩, h5⟩
      exact ⟨by omega, by omega⟩
    · rintro ⟨h1, h2⟩
      exact ⟨p, 0, v, ⟨rfl, rfl⟩, ⟨h1, rfl⟩, by omega⟩
  unfold vw
  by_cases h : p = b
  · rw [if_pos (by omega), h, uz_at]
    subst h
    exact Or.inr ⟨hv, (hS v).mpr ⟨rfl, rfl⟩, fun x hx => by have := ((hS x).mp hx).2; omega⟩
  · rw [if_neg (by omega)]
    exact Lst.none (fun x hx => h ((hS x).mp hx).1)
theorem q_foundAt {now : Nat → Int} {low high x : Int} {p : Nat} (hp : p ≤ 36) (e : x = p) (hl : 0 ≤ low ∧ low ≤ 36) (hh : -1 ≤ high ∧ high ≤ 36) : m_X6_foundAt x now low high = some (vw now low high p) := by
  refine wp_out ?_
  unfold m_X6_foundAt vw
  have ex : x.toNat = p := by omega
  refine wp_gd (by omega) (wp_gd (by omega) (wp_if (fun c1 => ?_) (fun c1 => ?_)))
  · refine wp_some ?_
    rw [if_neg (by omega)]
  · refine wp_gd (by omega) (wp_if (fun c2 => ?_) (fun c2 => ?_))
    · rw [ex]
      refine wp_gd (by omega) (wp_some ?_)
      rw [if_pos (by omega)]
    · refine wp_some ?_
      rw [if_neg (by omega)]
theorem q_costOf86 {B : Nat → Nat → Int} {t : Nat → Int} (hB : GB B) (hW : GW B) (ht : ∀ k, inI (t k)) {e : Int} (he : EV B e) (hn : e ≠ 540) {a b : Nat} (ha : a ≤ 36) (hb : b ≤ 36) {now next : Nat → Int} {low high : Int} (nA xA : Nat) (hO : WO B t (fun q z => q = b ∧ z = 16 * epr B e) (esd B e) now low high) (hok : spOk now next low high) {x2 x4 : Int} (e2 : x2 = a) (e4 : x4 = e / 9) :
    wp (m_X6_costOf_86 x2 x4 (B 0) (B 1) (B 2) (B 3) (B 4) (B 8) (B 9) (B 12) (B 13) t now nA next xA low high) (fun u => Lst (CL B t e a b) 268435456 u.1 ∧ spOk u.2.1 u.2.2.2.1 u.2.2.2.2.2.1 u.2.2.2.2.2.2) := by
  obtain ⟨g1, g2, g3, g4, g5, g6⟩ := sds_ok hW he hn
  have hZ : ∀ q z, (q = b ∧ z = 16 * epr B e) → 0 ≤ z ∧ z < 20000 ∧ q ≤ 36 := fun q z h => by omega
  have he' := he
  rcases he with he | ⟨e0, e1, e3, _⟩
  · exact absurd he hn
  obtain ⟨⟨n, hw⟩, _⟩ := hW.2.2.1 (e / 9).toNat (by omega)
  have hsw := siz_of (by decide) hw
  have hwn := hw.2.1
  have hW0 := hW.1
  have ew : x4.toNat = (e / 9).toNat := by omega
  unfold m_X6_costOf_86
  rw [ew]
  refine wp_gd (by omega) (wp_bind (q_walkBack hB ht hZ g3 (most := 6) (n := n) (Or.inl rfl) rfl hw (hW.2.2.2.2 _).1 (by omega) hO hok nA xA) ?_)
  rintro ⟨n1, n1A, n2, n2A, lo, hi⟩ ⟨w1, w2⟩
  have w1 : WO B t (fun q z => q = b ∧ z = 16 * epr B e) (pfx (B 4 (e / 9).toNat) n ++ esd B e) n1 lo hi := w1
  have w2 : spOk n1 n2 lo hi := w2
  obtain ⟨o1, o2, o3, o4, o5, o6⟩ := id w2
  have es : pfx (B 4 (e / 9).toNat) n ++ esd B e = sds B e := by unfold sds; rw [hsw]
  rw [es] at w1
  have hL := w1 a ha
  have hS : ∀ x, wkS B t (fun q z => q = b ∧ z = 16 * epr B e) (sds B e) a x ↔ ∃ y, spR B t (sds B e) a b y ∧ x = 16 * (epr B e + y) := by
    intro x
    constructor
    · rintro ⟨q, y, z, h1, ⟨h2, h3⟩, h4⟩
      subst h2
      exact ⟨y, h1, by omega⟩
    · rintro ⟨y, h1, h2⟩
      exact ⟨b, y, 16 * epr B e, h1, ⟨rfl, rfl⟩, by omega⟩
  refine wp_eq (q_foundAt ha e2 ⟨o3, o4⟩ ⟨o5, o6⟩) ?_
  have hCL : ∀ x, CL B t e a b x ↔ ∃ y, spR B t (sds B e) a b y ∧ x = wct B (e / 9).toNat + epr B e + y := by
    intro x
    unfold CL
    rw [if_neg hn]
  rcases hL with ⟨h1, h2⟩ | ⟨h1, h2, h3⟩
  · rw [h1]
    refine wp_gd (by decide) (wp_if (fun _ => wp_some ⟨?_, w2⟩) (fun z => absurd rfl z))
    refine Lst.none (fun x hx => ?_)
    obtain ⟨y, h4, _⟩ := (hCL x).mp hx
    exact h2 _ ((hS _).mpr ⟨y, h4, rfl⟩)
  · have hb2 := wkS_bd hB hZ g1 g2 h2
    obtain ⟨y, h4, h5⟩ := (hS _).mp h2
    have hc2 : inI (B 8 (e / 9).toNat) := hB.1 8 _ (by decide) (by decide) (by decide)
    have hbd := CL_bd hB hW he' ((hCL _).mpr ⟨y, h4, rfl⟩)
    refine wp_gd (by omega) (wp_if (fun z => absurd z (by omega)) (fun _ => ?_))
    refine wp_eq (q_wordCost (w := (e / 9).toNat) (by omega) hc2 (by omega)) (wp_some ⟨?_, w2⟩)
    show Lst (CL B t e a b) 268435456 (B 13 2 - 8 * (bl (B 8 (e / 9).toNat) : Int) + vw n1 lo hi a / 16)
    have e9 : B 13 2 - 8 * (bl (B 8 (e / 9).toNat) : Int) + vw n1 lo hi a / 16 = wct B (e / 9).toNat + epr B e + y := by
      rw [h5]
      unfold wct
      omega
    rw [e9]
    refine Or.inr ⟨by omega, (hCL _).mpr ⟨y, h4, rfl⟩, fun x hx => ?_⟩
    obtain ⟨y2, h6, h7⟩ := (hCL x).mp hx
    have h8 := h3 _ ((hS _).mpr ⟨y2, h6, rfl⟩)
    omega
set_option maxHeartbeats 1000000 in
theorem q_costOf {B : Nat → Nat → Int} {t : Nat → Int} (hB : GB B) (hW : GW B) (ht : ∀ k, inI (t k)) {e : Int} (he : EV B e) {a b : Nat} (ha : a ≤ 36) (hb : b ≤ 36) {now next : Nat → Int} {low high : Int} (nA xA : Nat) (hok : spOk now next low high) {x1 x2 x3 : Int} (e1 : x1 = e) (e2 : x2 = a) (e3 : x3 = b) :
    wp (m_X6_costOf x1 x2 x3 (B 0) (B 1) (B 2) (B 3) (B 4) (B 8) (B 9) (B 12) (B 13) t now nA next xA low high) (fun u => Lst (CL B t e a b) 268435456 u.1 ∧ spOk u.2.1 u.2.2.2.1 u.2.2.2.2.2.1 u.2.2.2.2.2.2) := by
  subst e1
  have heb : 0 ≤ x1 ∧ x1 ≤ 540 := by
    rcases he with he | he
    · omega
    · omega
  unfold m_X6_costOf
  refine wp_gd (by omega) (wp_if (fun c1 => ?_) (fun c1 => ?_))
  · have hpr := hB.2.2.2.2 1 (by decide)
    refine wp_gd (by omega) (wp_gd (by omega) (wp_if (fun c2 => ?_) (fun c2 => ?_)))
    · refine wp_some ⟨?_, hok⟩
      show Lst (CL B t x1 a b) 268435456 (B 13 1)
      refine Or.inr ⟨by omega, ?_, fun x hx => ?_⟩
      · unfold CL
        rw [if_pos c1]
        exact ⟨by omega, rfl⟩
      · unfold CL at hx
        rw [if_pos c1] at hx
        omega
    · refine wp_some ⟨Lst.none (fun x hx => ?_), hok⟩
      unfold CL at hx
      rw [if_pos c1] at hx
      omega
  · obtain ⟨g1, g2, g3, g4, g5, g6⟩ := sds_ok hW he c1
    have he' := he
    rcases he with he | ⟨d0, d1, d2, d3⟩
    · exact absurd he c1
    obtain ⟨o1, o2, o3, o4, o5, o6⟩ := hok
    have e3' : x3.toNat = b := by omega
    refine wp_eq (q_wordOf (by omega)) (wp_eq (q_endingOf (by omega)) ?_)
    unfold m_X6_startAt
    rw [e3']
    refine wp_bind (P := fun u : (Nat → Int) × Int × Int => u = (uz now b 0, x3, x3)) (wp_gd (by omega) (wp_vl (wp_some rfl))) ?_
    rintro u rfl
    refine wp_gd (by omega) (wp_if (fun c2 => ?_) (fun c2 => ?_))
    · have hm : x1 % 9 = 0 := by omega
      have ee : esd B x1 = [] := by unfold esd; rw [if_pos hm]
      have ep : epr B x1 = 0 := by unfold epr; rw [if_pos hm]
      refine q_costOf86 hB hW ht he' c1 ha hb nA xA ?_ ⟨uz_inI o1 (by decide), o2, by omega, by omega, by omega, by omega⟩ e2 rfl
      rw [ee, ep, e3]
      exact WO_start (by decide)
    · have hm : x1 % 9 ≠ 0 := by omega
      have d4 : x1 % 9 - 1 < B 18 1 := by
        rcases d3 with d3 | d3
        · exact absurd d3 hm
        · exact d3.1
      obtain ⟨⟨n2, hv⟩, _, _, hpr⟩ := hW.2.2.2.1 (x1 % 9 - 1).toNat (by omega)
      have hE := hW.2.1
      have hsv := siz_of (by decide) hv
      have hvn := hv.2.1
      have ee : esd B x1 = pfx (B 9 (x1 % 9 - 1).toNat) n2 := by unfold esd; rw [if_neg hm, hsv]
      have ep : epr B x1 = B 12 (x1 % 9 - 1).toNat := by unfold epr; rw [if_neg hm]
      refine wp_gd (by omega) (wp_gd (by omega) (wp_vl (wp_gd (by omega) ?_)))
      have hok2 : spOk (uz (uz now b 0) b (B 12 (x1 % 9 - 1).toNat * 16)) next x3 x3 := ⟨uz_inI (uz_inI o1 (by decide)) (by omega), o2, by omega, by omega, by omega, by omega⟩
      have hZ : ∀ q z, (q = b ∧ z = 16 * epr B x1) → 0 ≤ z ∧ z < 20000 ∧ q ≤ 36 := fun q z h => by omega
      have h0 : WO B t (fun q z => q = b ∧ z = 16 * epr B x1) [] (uz (uz now b 0) b (B 12 (x1 % 9 - 1).toNat * 16)) x3 x3 := by
        rw [e3, show B 12 (x1 % 9 - 1).toNat * 16 = 16 * epr B x1 by omega]
        exact WO_start (by omega)
      refine wp_bind (q_walkBack hB ht hZ (fun s hs => absurd hs List.not_mem_nil) (most := 3) (n := n2) (Or.inr rfl) rfl hv (hW.2.2.2.2 _).2.2 (by simp; omega) h0 hok2 nA xA) ?_
      rintro ⟨n1, n1A, nx, nxA, lo, hi⟩ ⟨w1, w2⟩
      refine q_costOf86 hB hW ht he' c1 ha hb n1A nxA ?_ w2 e2 rfl
      rw [ee]
      rw [List.append_nil] at w1
      exact w1
end
section
/-! the reference's table: walks forward -/
theorem spR_snoc {B : Nat → Nat → Int} {t : Nat → Int} (s : Nat) : ∀ (ss : List Nat) (a b : Nat) (x : Int), spR B t (ss ++ [s]) a b x ↔ ∃ (m j : Nat) (y : Int), spR B t ss a m y ∧ (j : Int) < B 0 s ∧ fit B t (3 * s + j) m ∧ m + (B 2 (3 * s + j)).toNat = b ∧ x = y + prc B t (3 * s + j) m := by
  intro ss
  induction ss with
  | nil =>
    intro a b x
    constructor
    · rintro ⟨j, y, h1, h2, ⟨h3, h4⟩, h5⟩
      exact ⟨a, j, 0, ⟨rfl, rfl⟩, h1, h2, h3, by omega⟩
    · rintro ⟨m, j, y, ⟨h1, h2⟩, h3, h4, h5, h6⟩
      subst h1
      exact ⟨j, 0, h3, h4, ⟨h5, rfl⟩, by omega⟩
  | cons c ss ih =>
    intro a b x
    constructor
    · rintro ⟨j, y, h1, h2, h3, h5⟩
      obtain ⟨m, j2, y2, g1, g2, g3, g4, g5⟩ := (ih _ _ _).mp h3
      exact ⟨m, j2, prc B t (3 * c + j) a + y2, ⟨j, y2, h1, h2, g1, rfl⟩, g2, g3, g4, by omega⟩
    · rintro ⟨m, j2, y, ⟨j, y2, h1, h2, g1, g6⟩, g2, g3, g4, g5⟩
      exact ⟨j, y2 + prc B t (3 * s + j2) m, h1, h2, (ih _ _ _).mpr ⟨m, j2, y2, g1, g2, g3, g4, rfl⟩, by omega⟩
def TO (B : Nat → Nat → Int) (t : Nat → Int) (n a : Nat) (ss : List Nat) (reach : Nat → Int) : Prop := ∀ k : Nat, k ≤ 36 → (a + k ≤ n → Lst (spR B t ss a (a + k)) 134217728 (reach k)) ∧ (n < a + k → reach k = 134217728)
def fph (B : Nat → Nat → Int) (t reach : Nat → Int) (n a s k m q : Nat) (x : Int) : Prop := ∃ (k' j : Nat), (k' < k ∨ (k' = k ∧ j < m)) ∧ (j : Int) < B 0 s ∧ k' + (B 2 (3 * s + j)).toNat = q ∧ fit B t (3 * s + j) (a + k') ∧ a + q ≤ n ∧ reach k' < 134217728 ∧ x = reach k' + prc B t (3 * s + j) (a + k')
def FI (B : Nat → Nat → Int) (t reach : Nat → Int) (n a s k m : Nat) (next : Nat → Int) : Prop := (∀ q : Nat, q ≤ 36 → Lst (fph B t reach n a s k m q) 134217728 (next q)) ∧ ∀ i, inI (next i)
theorem FI.same {B : Nat → Nat → Int} {t reach : Nat → Int} {n a s k m k' m' : Nat} {next : Nat → Int} (h : FI B t reach n a s k m next) (hS : ∀ q x, fph B t reach n a s k' m' q x ↔ fph B t reach n a s k m q x) : FI B t reach n a s k' m' next := ⟨fun q hq => (h.1 q hq).iff (hS q), h.2⟩
theorem q_others {t : Nat → Int} (ht : ∀ k, inI (t k)) {row : Int} {n p : Nat} {top : Int} (hr : isR 5 4 top row n) (hrL : inL row) (hp : p + n ≤ 36) {x1 x2 x3 x4 x7 : Int} (e1 : x1 + x3 = p) (e7 : x7 = n) (sM sP sp : Nat → Int) (sl nn : Int) (re ne : Nat → Int) :
    wp (zloop (fun a => m_X9_oneSound_105 x1 x2 x3 x4 row x7 a.1 a.2 sM sP sp sl nn t re ne) FU (0, 0)) (fun u => u.2.1 = (mis t row p n : Int)) := by
  have hn4 := hr.2.1
  refine wp_loop (fun j b => b.2 = (j : Int) ∧ b.1 = (mis t row p j : Int)) n (by omega) ⟨rfl, rfl⟩ ?_
  intro j b hj hs
  obtain ⟨a1, a2⟩ := hs
  unfold m_X9_oneSound_105
  refine wp_gd (by omega) (wp_gd (by omega) (wp_if (fun c1 => ?_) (fun c1 => ?_)))
  · refine wp_end (by decide) ?_
    show b.1 = _
    rw [a2, show j = n by omega]
  · have e6 : (x1 + x3 + b.2).toNat = p + j := by omega
    have h5 := pz_nonneg 5 row j
    have h6 := pz_lt 5 row j
    have h7 : (2 : Int) ^ 5 = 32 := by decide
    refine wp_gd (by omega) (wp_eq (q_piece 5 j (Or.inl rfl) rfl a1 hrL (by omega)) ?_)
    rw [e6]
    refine wp_gd (ht _) (wp_gd (by omega) (wp_if (fun c2 => ?_) (fun c2 => ?_)))
    · refine wp_vl (wp_vl (wp_go ⟨by omega, by show b.2 + 1 = _; omega, ?_⟩))
      show b.1 + 0 = ((mis t row p j + (if pz 5 row j = t (p + j) then 0 else 1) : Nat) : Int)
      rw [if_pos c2.symm]
      omega
    · refine wp_vl (wp_vl (wp_go ⟨by omega, by show b.2 + 1 = _; omega, ?_⟩))
      show b.1 + 1 = ((mis t row p j + (if pz 5 row j = t (p + j) then 0 else 1) : Nat) : Int)
      rw [if_neg (fun z => c2 z.symm)]
      omega
theorem mis_le (t : Nat → Int) (row : Int) (p : Nat) : ∀ k, mis t row p k ≤ k := by
  intro k
  induction k with
  | zero => exact Nat.le_refl _
  | succ k ih =>
    show mis t row p k + (if pz 5 row k = t (p + k) then 0 else 1) ≤ k + 1
    by_cases h : pz 5 row k = t (p + k)
    · rw [if_pos h]
      omega
    · rw [if_neg h]
      omega
set_option maxHeartbeats 2000000 in
theorem q_oneIn {B : Nat → Nat → Int} {t reach next : Nat → Int} (hB : GB B) (ht : ∀ k, inI (t k)) {n a s k m : Nat} (hn : n ≤ 36) (hs50 : s < 50) (hk : a + k ≤ n) (hre : 0 ≤ reach k ∧ reach k < 10000) {x1 x2 x3 x4 nn sl : Int} (e1 : x1 = a) (e2 : x2 = s) (e3 : x3 = k) (e4 : x4 = m) (en : nn = n) (esl : sl = B 13 0) (hm : (m : Int) ≤ B 0 s) (h : FI B t reach n a s k m next) :
    wp (m_X9_oneSound_51 x1 x2 x3 x4 (B 0) (B 3) (B 1) sl nn t reach next) (fun u => (u.1 = 0 → (m : Int) < B 0 s ∧ u.2.1 = ((m + 1 : Nat) : Int) ∧ FI B t reach n a s k (m + 1) u.2.2) ∧ (u.1 ≠ 0 → FI B t reach n a s (k + 1) 0 u.2.2)) := by
  have hb0 := hB.2.1 s hs50
  have es : x2.toNat = s := by omega
  have ei : (3 * x2 + x4).toNat = 3 * s + m := by omega
  have ek : x3.toNat = k := by omega
  unfold m_X9_oneSound_51
  rw [es, ei, ek]
  refine wp_gd (by omega) (wp_gd (by omega) (wp_gd (by omega) (wp_if (fun c1 => ?_) (fun c1 => ?_))))
  · refine wp_some ⟨fun z => absurd z Nat.one_ne_zero, fun _ => h.same (fun q x => ?_)⟩
    constructor
    · rintro ⟨k', j, a2, a3, a4⟩
      exact ⟨k', j, by omega, a3, a4⟩
    · rintro ⟨k', j, a2, a3, a4⟩
      exact ⟨k', j, by omega, a3, a4⟩
  · have hmlt : (m : Int) < B 0 s := by omega
    obtain ⟨l, hl1, hl2⟩ := hB.2.2.2.1 s m hs50 hmlt
    have hl3 := hl1.1
    have hl4 := hl1.2.1
    have hrI := hB.1 1 (3 * s + m) (by decide) (by decide) (by decide)
    have hrL : inL (B 1 (3 * s + m)) := by omega
    have eln : (B 2 (3 * s + m)).toNat = l := by omega
    have no : (¬ (a + (k + l) ≤ n ∧ fit B t (3 * s + m) (a + k))) → ∀ q x, fph B t reach n a s k (m + 1) q x ↔ fph B t reach n a s k m q x := by
      intro hf q x
      constructor
      · rintro ⟨k', j, a2, a3, a4, a5, a6, a7⟩
        refine ⟨k', j, ?_, a3, a4, a5, a6, a7⟩
        by_cases hj : k' = k ∧ j = m
        · obtain ⟨rfl, rfl⟩ := hj
          exact absurd ⟨by omega, a5⟩ hf
        · omega
      · rintro ⟨k', j, a2, a3⟩
        exact ⟨k', j, by omega, a3⟩
    refine wp_gd (by omega) (wp_vl (wp_eq (q_sizeOf 5 4 l (Or.inl ⟨rfl, rfl⟩) rfl hrL hl1) (wp_gd (by omega) (wp_gd (by omega) (wp_if (fun c2 => ?_) (fun c2 => ?_))))))
    · refine wp_bind (q_others (p := a + k) (n := l) (top := 26) ht hl1 hrL (by omega) (by omega) rfl _ _ _ _ _ _ _) ?_
      rintro ⟨t5, x8, x9⟩ hx8
      have hx8 : x8 = (mis t (B 1 (3 * s + m)) (a + k) l : Int) := hx8
      have hmle := mis_le t (B 1 (3 * s + m)) (a + k) l
      refine wp_gd (by omega) (wp_if (fun c3 => ?_) (fun c3 => ?_))
      · have hf : fit B t (3 * s + m) (a + k) := by
          unfold fit
          rw [eln]
          omega
        have hpr := prc_bd (i := 3 * s + m) hB (by omega) hf
        have e9 : reach k + B 3 (3 * s + m) + sl * x8 = reach k + prc B t (3 * s + m) (a + k) := by
          unfold prc
          rw [eln, hx8, esl, Int.mul_comm (B 13 0)]
          omega
        have eq1 : (x3 + (l : Int)).toNat = k + l := by omega
        rw [e9, eq1]
        refine wp_gd (by omega) (wp_gd (by omega) (wp_gd (by omega) (wp_gd (h.2 _) (wp_gd (by omega) (wp_gd (by omega) (wp_vl (wp_vl (wp_some ⟨fun _ => ⟨hmlt, by show x4 + 1 = _; omega, ?_, ?_⟩, fun z => absurd rfl z⟩))))))))
        · intro q hq
          show Lst _ 134217728 (uz next (k + l) _ q)
          have hone : ∀ x, fph B t reach n a s k (m + 1) q x ↔ fph B t reach n a s k m q x ∨ (q = k + l ∧ x = reach k + prc B t (3 * s + m) (a + k)) := by
            intro x
            constructor
            · rintro ⟨k', j, a2, a3, a4, a5, a6, a7, a8⟩
              by_cases hj : k' = k ∧ j = m
              · obtain ⟨rfl, rfl⟩ := hj
                exact Or.inr ⟨by omega, a8⟩
              · exact Or.inl ⟨k', j, by omega, a3, a4, a5, a6, a7, a8⟩
            · rintro (⟨k', j, a2, a3⟩ | ⟨rfl, rfl⟩)
              · exact ⟨k', j, by omega, a3⟩
              · exact ⟨k, m, Or.inr ⟨rfl, by omega⟩, hmlt, by omega, hf, by omega, by omega, rfl⟩
          by_cases hqq : q = k + l
          · rw [hqq, uz_at]
            rw [hqq] at hone hq
            refine (h.1 (k + l) hq).push (by omega) (fun x => (hone x).trans ?_)
            constructor
            · rintro (z | ⟨_, z⟩)
              · exact Or.inl z
              · exact Or.inr z
            · rintro (z | z)
              · exact Or.inl z
              · exact Or.inr ⟨rfl, z⟩
          · rw [uz_ne _ _ hqq]
            refine (h.1 q hq).iff (fun x => (hone x).trans ?_)
            constructor
            · rintro (z | ⟨z, _⟩)
              · exact z
              · exact absurd z hqq
            · exact Or.inl
        · have := h.2 (k + l)
          exact uz_inI h.2 (by omega)
      · refine wp_vl (wp_some ⟨fun _ => ⟨hmlt, by show x4 + 1 = _; omega, h.same (no (fun z => ?_))⟩, fun z => absurd rfl z⟩)
        have := z.2
        unfold fit at this
        rw [eln] at this
        omega
    · exact wp_vl (wp_some ⟨fun _ => ⟨hmlt, by show x4 + 1 = _; omega, h.same (no (fun z => by omega))⟩, fun z => absurd rfl z⟩)
set_option maxHeartbeats 2000000 in
theorem q_oneSound {B : Nat → Nat → Int} {t reach next : Nat → Int} (hB : GB B) (ht : ∀ k, inI (t k)) {n a s : Nat} {ss : List Nat} (hn : n ≤ 36) (ha : a < n) (hs50 : s < 50) (hss : ∀ s ∈ ss, s < 50) (hlen : ss.length ≤ 9) (hT : TO B t n a ss reach) (hR : ∀ i, inI (reach i)) (hX : ∀ i, inI (next i)) {x1 x2 nn sl : Int} (e1 : x1 = a) (e2 : x2 = s) (en : nn = n) (esl : sl = B 13 0) :
    wp (m_X9_oneSound x1 x2 (B 0) (B 3) (B 1) sl nn t reach next) (fun u => TO B t n a (ss ++ [s]) u.1 ∧ (∀ i, inI (u.1 i)) ∧ ∀ i, inI (u.2 i)) := by
  have hb0 := hB.2.1 s hs50
  have bd : ∀ k, a + k ≤ n → reach k < 134217728 → 0 ≤ reach k ∧ reach k < 10000 := by
    intro k hk hlt
    have h1 := ((hT k (by omega)).1 hk).mem (by omega)
    have := spR_bd hB ss hss _ _ _ h1
    omega
  unfold m_X9_oneSound
  refine wp_bind (P := fun u : Nat × Int × (Nat → Int) => u.2.2 = fz next 0 37 134217728) (wp_loop (fun k b => b.1 = (k : Int) ∧ b.2 = fz next 0 k 134217728) 37 (by omega) ⟨rfl, (fz_nil next 134217728 (by omega)).symm⟩ ?_) ?_
  · intro k b hk hs
    obtain ⟨a1, a2⟩ := hs
    unfold m_X9_oneSound_2
    refine wp_gd (by omega) (wp_if (fun c1 => ?_) (fun c1 => ?_))
    · refine wp_end (by decide) ?_
      show b.2 = _
      rw [a2, show k = 37 by omega]
    · refine wp_gd (by omega) (wp_vl (wp_vl (wp_go ⟨by omega, by show b.1 + 1 = _; omega, ?_⟩)))
      show uz b.2 b.1.toNat 134217728 = _
      rw [a2, show b.1.toNat = k by omega, fz_step next 134217728 (by omega)]
  · rintro ⟨t2, y3, nx⟩ hnx
    have hnx : nx = fz next 0 37 134217728 := hnx
    subst hnx
    refine wp_bind (P := fun u : Nat × Int × (Nat → Int) => FI B t reach n a s (n - a + 1) 0 u.2.2) (wp_loop (fun k b => b.1 = (k : Int) ∧ FI B t reach n a s k 0 b.2) (n - a + 1) (by omega) ⟨rfl, ?_, ?_⟩ ?_) ?_
    · intro q hq
      show Lst _ 134217728 (fz next 0 37 134217728 q)
      rw [fz_in next 134217728 (by omega)]
      refine Lst.none ?_
      rintro x ⟨k', j, a2, _⟩
      omega
    · exact fz_inI hX (by decide)
    · intro k b hk hs
      obtain ⟨a1, a2⟩ := hs
      have ek : b.1.toNat = k := by omega
      unfold m_X9_oneSound_24
      refine wp_gd (by omega) (wp_gd (by omega) (wp_if (fun c1 => ?_) (fun c1 => ?_)))
      · refine wp_end (by decide) ?_
        show FI B t reach n a s (n - a + 1) 0 b.2
        rw [show n - a + 1 = k by omega]
        exact a2
      · rw [ek]
        refine wp_gd (by omega) (wp_gd (hR _) (wp_if (fun c2 => ?_) (fun c2 => ?_)))
        · refine wp_bind (P := fun u : Nat × Int × (Nat → Int) => FI B t reach n a s (k + 1) 0 u.2.2) (wp_loop (fun m d => d.1 = (m : Int) ∧ FI B t reach n a s k m d.2) (B 0 s).toNat (by omega) ⟨rfl, a2⟩ ?_) ?_
          · intro m d hm hs3
            obtain ⟨d1, d2⟩ := hs3
            refine wp_mono (q_oneIn hB ht hn hs50 (k := k) (m := m) (by omega) (bd k (by omega) c2) e1 e2 a1 d1 en esl (by omega) d2) ?_
            intro u hu
            refine ⟨fun z => ?_, hu.2⟩
            obtain ⟨f1, f2, f3⟩ := hu.1 z
            exact ⟨by omega, f2, f3⟩
          · rintro ⟨t51, y4, nx'⟩ hu
            exact wp_vl (wp_go ⟨by omega, by show b.1 + 1 = _; omega, hu⟩)
        · refine wp_vl (wp_go ⟨by omega, by show b.1 + 1 = _; omega, a2.same (fun q x => ?_)⟩)
          constructor
          · rintro ⟨k', j, a3, a4, a5, a6, a7, a8, a9⟩
            have hne : k' ≠ k := fun z => by rw [z] at a8; omega
            exact ⟨k', j, by omega, a4, a5, a6, a7, a8, a9⟩
          · rintro ⟨k', j, a3, a4⟩
            exact ⟨k', j, by omega, a4⟩
    · rintro ⟨t24, y3', nx⟩ hF
      have hF : FI B t reach n a s (n - a + 1) 0 nx := hF
      refine wp_bind (P := fun u : Nat × Int × (Nat → Int) => u.2.2 = zcp nx reach 0 0 37) (wp_loop (fun k b => b.1 = (k : Int) ∧ b.2 = zcp nx reach 0 0 k) 37 (by omega) ⟨rfl, ?_⟩ ?_) ?_
      · funext i
        unfold zcp
        rw [if_neg (by omega)]
      · intro k b hk hs
        obtain ⟨a1, a2⟩ := hs
        unfold m_X9_oneSound_220
        refine wp_gd (by omega) (wp_if (fun c1 => ?_) (fun c1 => ?_))
        · refine wp_end (by decide) ?_
          show b.2 = _
          rw [a2, show k = 37 by omega]
        · refine wp_gd (by omega) (wp_gd (by omega) (wp_vl (wp_vl (wp_go ⟨by omega, by show b.1 + 1 = _; omega, ?_⟩))))
          show uz b.2 b.1.toNat (nx b.1.toNat) = _
          rw [a2, show b.1.toNat = k by omega]
          funext i
          unfold uz zcp
          by_cases h1 : i = k
          · rw [if_pos h1, if_pos (by omega), h1]
            congr 1
            omega
          · rw [if_neg h1]
            by_cases h2 : 0 ≤ i ∧ i < 0 + k
            · rw [if_pos h2, if_pos (by omega)]
            · rw [if_neg h2, if_neg (by omega)]
      · rintro ⟨t220, y3'', re'⟩ hre
        have hre : re' = zcp nx reach 0 0 37 := hre
        subst hre
        have hget : ∀ k, k ≤ 36 → zcp nx reach 0 0 37 k = nx k := by
          intro k hk
          unfold zcp
          rw [if_pos (by omega)]
          congr 1
          omega
        refine wp_some ⟨?_, ?_, hF.2⟩
        · show TO B t n a (ss ++ [s]) (zcp nx reach 0 0 37)
          intro k hk
          rw [hget k hk]
          have hL := hF.1 k hk
          constructor
          · intro hak
            refine hL.dom ?_ ?_
            · rintro x ⟨k', j, a2, a3, a4, a5, a6, a7, a8⟩
              have h9 := ((hT k' (by omega)).1 (by omega)).mem (by omega)
              exact (spR_snoc s ss _ _ _).mpr ⟨a + k', j, reach k', h9, a3, a5, by omega, a8⟩
            · intro x hx
              obtain ⟨m, j, y, g1, g2, g3, g4, g5⟩ := (spR_snoc s ss _ _ _).mp hx
              have gb := spR_bd hB ss hss _ _ _ g1
              obtain ⟨k', ek'⟩ : ∃ k', m = a + k' := ⟨m - a, by omega⟩
              subst ek'
              have h9 := ((hT k' (by omega)).1 (by omega)).le g1
              exact ⟨reach k' + prc B t (3 * s + j) (a + k'), ⟨k', j, by omega, g2, by omega, g3, hak, h9.2, rfl⟩, by omega⟩
          · intro hak
            rcases hL with ⟨h1, _⟩ | ⟨_, ⟨k', j, a2, a3, a4, a5, a6, _⟩, _⟩
            · exact h1
            · omega
        · intro i
          show inI (zcp nx reach 0 0 37 i)
          unfold zcp
          by_cases h2 : 0 ≤ i ∧ i < 0 + 37
          · rw [if_pos h2]
            exact hF.2 _
          · rw [if_neg h2]
            exact hR i
end
section
/-! the reference's table, whole -/
theorem TO_congr {B : Nat → Nat → Int} {t : Nat → Int} {n a : Nat} {ss : List Nat} {f g : Nat → Int} (h : TO B t n a ss f) (e : ∀ k, k ≤ 36 → g k = f k) : TO B t n a ss g := by
  intro k hk
  rw [e k hk]
  exact h k hk
theorem TO_start {B : Nat → Nat → Int} {t : Nat → Int} {n a : Nat} {f : Nat → Int} (ha : a ≤ n) (h0 : f 0 = 0) (h1 : ∀ k, 0 < k → k ≤ 36 → f k = 134217728) : TO B t n a [] f := by
  intro k hk
  rcases Nat.eq_zero_or_pos k with h | h
  · subst h
    rw [h0]
    refine ⟨fun _ => Or.inr ⟨by decide, ⟨rfl, rfl⟩, fun x hx => ?_⟩, fun z => ?_⟩
    · have := hx.2
      omega
    · omega
  · rw [h1 k h hk]
    exact ⟨fun _ => Lst.none (fun x hx => by have := hx.1; omega), fun _ => rfl⟩
/-- the table's rows up to a number stand -/
def TBL (B : Nat → Nat → Int) (t : Nat → Int) (n cur : Nat) (tb : Nat → Int) : Prop := (∀ (a e : Nat), e < 540 → a < n → 540 * a + e < cur → EV B e → TO B t n a (sds B e) (fun k => tb (37 * (540 * a + e) + k))) ∧ ∀ i, inI (tb i)
theorem TBL.skip {B : Nat → Nat → Int} {t : Nat → Int} {n cur cur' : Nat} {tb : Nat → Int} (h : TBL B t n cur tb) (hs : ∀ (a e : Nat), e < 540 → a < n → cur ≤ 540 * a + e → 540 * a + e < cur' → ¬ EV B e) : TBL B t n cur' tb := by
  refine ⟨fun a e h1 h2 h3 h4 => ?_, h.2⟩
  by_cases hc : 540 * a + e < cur
  · exact h.1 a e h1 h2 hc h4
  · exact absurd h4 (hs a e h1 h2 (by omega) h3)
theorem TBL.row {B : Nat → Nat → Int} {t : Nat → Int} {n a e : Nat} {tb re : Nat → Int} (h : TBL B t n (540 * a + e) tb) (he : e < 540) (hR : ∀ i, inI (re i)) (hT : TO B t n a (sds B e) re) : TBL B t n (540 * a + e + 1) (zcp re tb 0 (37 * (540 * a + e)) 37) := by
  have hin : ∀ k, k ≤ 36 → zcp re tb 0 (37 * (540 * a + e)) 37 (37 * (540 * a + e) + k) = re k := by
    intro k hk
    unfold zcp
    rw [if_pos (by omega)]
    congr 1
    omega
  refine ⟨fun a' e' h1 h2 h3 h4 => ?_, fun i => ?_⟩
  · by_cases hc : 540 * a' + e' = 540 * a + e
    · have ha : a' = a := by omega
      have hee : e' = e := by omega
      subst ha
      subst hee
      exact TO_congr hT (fun k hk => hin k hk)
    · refine TO_congr (h.1 a' e' h1 h2 (by omega) h4) (fun k hk => ?_)
      unfold zcp
      rw [if_neg (by omega)]
  · unfold zcp
    by_cases hc : 37 * (540 * a + e) ≤ i ∧ i < 37 * (540 * a + e) + 37
    · rw [if_pos hc]
      exact hR _
    · rw [if_neg hc]
      exact h.2 i
theorem q_keepRow {tb re : Nat → Int} {x1 : Int} {d : Nat} (e1 : x1 = d) (hd : d + 37 ≤ 719280) : m_X9_keepRow x1 tb re = some (zcp re tb 0 d 37) := by
  refine wp_out ?_
  unfold m_X9_keepRow
  refine wp_bind (P := fun u : Nat × Int × (Nat → Int) => u.2.2 = zcp re tb 0 d 37) (wp_loop (fun k b => b.1 = (k : Int) ∧ b.2 = zcp re tb 0 d k) 37 (by omega) ⟨rfl, ?_⟩ ?_) ?_
  · funext i
    unfold zcp
    rw [if_neg (by omega)]
  · intro k b hk hs
    obtain ⟨a1, a2⟩ := hs
    unfold m_X9_keepRow_2
    refine wp_gd (by omega) (wp_if (fun c1 => ?_) (fun c1 => ?_))
    · refine wp_end (by decide) ?_
      show b.2 = _
      rw [a2, show k = 37 by omega]
    · refine wp_gd (by omega) (wp_gd (by omega) (wp_vl (wp_vl (wp_go ⟨by omega, by show b.1 + 1 = _; omega, ?_⟩))))
      show uz b.2 (x1 + b.1).toNat (re b.1.toNat) = _
      rw [a2, show (x1 + b.1).toNat = d + k by omega, show b.1.toNat = k by omega]
      funext i
      unfold uz zcp
      by_cases h1 : i = d + k
      · rw [if_pos h1, if_pos (by omega), h1]
        congr 1
        omega
      · rw [if_neg h1]
        by_cases h2 : d ≤ i ∧ i < d + k
        · rw [if_pos h2, if_pos (by omega)]
        · rw [if_neg h2, if_neg (by omega)]
  · rintro ⟨t2, y, f⟩ hu
    exact wp_some hu
theorem q_cell (a w e : Int) : m_X9_cell a w e = some ((((a * 60 + w) * 9 + e) + 1) * 37) := rfl
set_option maxHeartbeats 2000000 in
theorem q_mkEnd {B : Nat → Nat → Int} {t : Nat → Int} (hB : GB B) (hW : GW B) (ht : ∀ k, inI (t k)) {n a w : Nat} (hn : n ≤ 36) (ha : a < n) (hw : (w : Int) < B 18 0) {tb re ne : Nat → Int} (hT : TBL B t n (540 * a + 9 * w + 1) tb) (hR : ∀ i, inI (re i)) (hX : ∀ i, inI (ne i)) {x1 x2 nn sl : Int} (e1 : x1 = a) (e2 : x2 = w) (en : nn = n) (esl : sl = B 13 0) (wo : Int) :
    wp (zloop (fun b => m_X9_makeTable_104 x1 x2 b.1 (B 0) (B 3) (B 1) (B 4) (B 9) (B 7) (B 11) wo (B 18 1) sl nn t b.2.1 b.2.2.1 b.2.2.2) FU (0, tb, re, ne)) (fun u => TBL B t n (540 * a + 9 * (w + 1)) u.2.2.1 ∧ (∀ i, inI (u.2.2.2.1 i)) ∧ ∀ i, inI (u.2.2.2.2 i)) := by
  have hW0 := hW.1
  have hE0 := hW.2.1
  obtain ⟨⟨nw, hwr⟩, _, _, hwc⟩ := hW.2.2.1 w hw
  have hsw := siz_of (by decide) hwr
  have hwn := hwr.2.1
  have hev0 : EV B ((9 * w : Nat) : Int) := Or.inr ⟨by omega, by omega, by omega, Or.inl (by omega)⟩
  have hs0 : sds B ((9 * w : Nat) : Int) = pfx (B 4 w) nw := by
    unfold sds esd
    rw [if_pos (by omega), List.append_nil, show (((9 * w : Nat) : Int) / 9).toNat = w by omega, hsw]
  refine wp_loop (fun e b => b.1 = (e : Int) ∧ TBL B t n (540 * a + 9 * w + 1 + e) b.2.1 ∧ (∀ i, inI (b.2.2.1 i)) ∧ ∀ i, inI (b.2.2.2 i)) (B 18 1).toNat (by omega) ⟨rfl, hT, hR, hX⟩ ?_
  intro e b hk hs
  obtain ⟨a1, a2, a3, a4⟩ := hs
  have ee : b.1.toNat = e := by omega
  have ew : x2.toNat = w := by omega
  unfold m_X9_makeTable_104
  refine wp_gd (by omega) (wp_gd (by omega) (wp_if (fun c1 => ?_) (fun c1 => ?_)))
  · refine wp_end (by decide) ⟨?_, a3, a4⟩
    refine a2.skip (fun a' e' h1 h2 h3 h4 hev => ?_)
    have hw' : 540 * a' + e' ≥ 540 * a + 9 * w + 1 + e := h3
    have haa : a' = a := by omega
    subst haa
    rcases hev with z | ⟨z1, z2, z3, z4⟩
    · omega
    · omega
  · rw [ee, ew]
    have heE : (e : Int) < B 18 1 := by omega
    obtain ⟨⟨nv, hvr⟩, _, hvc, hvp⟩ := hW.2.2.2.1 e heE
    have hsv := siz_of (by decide) hvr
    have hvn := hvr.2.1
    refine wp_gd (by omega) (wp_gd (by omega) (wp_gd (by omega) (wp_gd (by omega) (wp_if (fun c2 => ?_) (fun c2 => ?_)))))
    · have hev : EV B ((9 * w + (e + 1) : Nat) : Int) := by
        refine Or.inr ⟨by omega, by omega, by omega, Or.inr ⟨by omega, ?_⟩⟩
        rw [show (((9 * w + (e + 1) : Nat) : Int) % 9 - 1).toNat = e by omega, show (((9 * w + (e + 1) : Nat) : Int) / 9).toNat = w by omega]
        exact c2
      have hs1 : sds B ((9 * w + (e + 1) : Nat) : Int) = pfx (B 4 w) nw ++ pfx (B 9 e) nv := by
        unfold sds esd
        rw [if_neg (by omega), show (((9 * w + (e + 1) : Nat) : Int) / 9).toNat = w by omega, show (((9 * w + (e + 1) : Nat) : Int) % 9 - 1).toNat = e by omega, hsw, hsv]
      have hlt1 := pfx_lt hwr nw (Nat.le_refl nw)
      refine wp_bind (P := fun u : Nat × Int × (Nat → Int) => TO B t n a (pfx (B 4 w) nw) u.2.2 ∧ ∀ i, inI (u.2.2 i)) (wp_loop (fun k d => d.1 = (k : Int) ∧ (∀ j, j < k → d.2 j = b.2.1 (37 * (540 * a + 9 * w) + j)) ∧ ∀ i, inI (d.2 i)) 37 (by omega) ⟨rfl, fun j hj => absurd hj (by omega), a3⟩ ?_) ?_
      · intro k d hk2 hs2
        obtain ⟨d1, d2, d3⟩ := hs2
        unfold m_X9_makeTable_133
        refine wp_gd (by omega) (wp_if (fun c3 => ?_) (fun c3 => ?_))
        · refine wp_end (by decide) ⟨?_, d3⟩
          have h5 := a2.1 a (9 * w) (by omega) ha (by omega) hev0
          rw [hs0] at h5
          exact TO_congr h5 (fun j hj => d2 j (by omega))
        · refine wp_eq (q_cell _ _ _) ?_
          have e8 : ((((x1 * 60 + x2) * 9 + -1) + 1) * 37 + d.1).toNat = 37 * (540 * a + 9 * w) + k := by omega
          refine wp_gd (by omega) (wp_gd (by omega) ?_)
          rw [e8, show d.1.toNat = k by omega]
          refine wp_vl (wp_vl (wp_go ⟨by omega, by show d.1 + 1 = _; omega, fun j hj => ?_, uz_inI d3 (a2.2 _)⟩))
          show uz d.2 k _ j = _
          by_cases hjk : j = k
          · rw [hjk, uz_at]
          · rw [uz_ne _ _ hjk]
            exact d2 j (by omega)
      · rintro ⟨t133, y4, re1⟩ ⟨g1, g2⟩
        have g1 : TO B t n a (pfx (B 4 w) nw) re1 := g1
        have g2 : ∀ i, inI (re1 i) := g2
        refine wp_bind (P := fun u : Nat × Int × (Nat → Int) × (Nat → Int) => TO B t n a (pfx (B 4 w) nw ++ pfx (B 9 e) nv) u.2.2.1 ∧ (∀ i, inI (u.2.2.1 i)) ∧ ∀ i, inI (u.2.2.2 i)) (wp_loop (fun j d => d.1 = (j : Int) ∧ TO B t n a (pfx (B 4 w) nw ++ pfx (B 9 e) j) d.2.1 ∧ (∀ i, inI (d.2.1 i)) ∧ ∀ i, inI (d.2.2 i)) nv (by omega) ⟨rfl, ?_, g2, a4⟩ ?_) ?_
        · show TO B t n a (pfx (B 4 w) nw ++ []) re1
          rw [List.append_nil]
          exact g1
        · intro j d hj hs2
          obtain ⟨d1, d2, d3, d4⟩ := hs2
          unfold m_X9_makeTable_170
          rw [ee]
          refine wp_gd (by omega) (wp_eq (q_sizeOf 6 3 nv (Or.inr (Or.inr (Or.inl ⟨rfl, rfl⟩))) rfl (hW.2.2.2.2 _).2.2 hvr) (wp_gd (by omega) (wp_gd (by omega) (wp_if (fun c3 => ?_) (fun c3 => ?_)))))
          · refine wp_end (by decide) ⟨?_, d3, d4⟩
            rw [show nv = j by omega]
            exact d2
          · have hjn : j < nv := by omega
            have hp := hvr.2.2.2.1 j hjn
            have hlt2 := pfx_lt hvr j (by omega)
            refine wp_gd (by omega) (wp_eq (q_piece 6 j (Or.inr (Or.inl rfl)) rfl d1 (hW.2.2.2.2 _).2.2 (by omega)) ?_)
            refine wp_bind (q_oneSound (s := sn (B 9 e) j) (ss := pfx (B 4 w) nw ++ pfx (B 9 e) j) hB ht hn ha (by unfold sn; omega) (fun s hs => (List.mem_append.mp hs).elim (hlt1 s) (hlt2 s)) (by rw [List.length_append, pfx_len, pfx_len]; omega) d2 d3 d4 e1 (by unfold sn; omega) en esl) ?_
            rintro ⟨re2, ne2⟩ ⟨f1, f2, f3⟩
            refine wp_vl (wp_go ⟨by omega, by show d.1 + 1 = _; omega, ?_, f2, f3⟩)
            rw [List.append_assoc] at f1
            exact f1
        · rintro ⟨t170, y5, re2, ne2⟩ ⟨f1, f2, f3⟩
          have f1 : TO B t n a (pfx (B 4 w) nw ++ pfx (B 9 e) nv) re2 := f1
          refine wp_eq (q_cell _ _ _) (wp_eq (q_keepRow (d := 37 * (540 * a + (9 * w + (e + 1)))) (by omega) (by omega)) ?_)
          refine wp_vl (wp_go ⟨by omega, by show b.1 + 1 = _; omega, ?_, f2, f3⟩)
          have h9 := TBL.row (a := a) (e := 9 * w + (e + 1)) (re := re2) (by rw [show 540 * a + (9 * w + (e + 1)) = 540 * a + 9 * w + 1 + e by omega]; exact a2) (by omega) f2 (by rw [hs1]; exact f1)
          rw [show 540 * a + (9 * w + (e + 1)) + 1 = 540 * a + 9 * w + 1 + (e + 1) by omega] at h9
          exact h9
    · refine wp_vl (wp_go ⟨by omega, by show b.1 + 1 = _; omega, a2.skip (fun a' e' h1 h2 h3 h4 hev => ?_), a3, a4⟩)
      have haa : a' = a := by omega
      have hee : e' = 9 * w + (e + 1) := by omega
      rw [hee] at hev
      rcases hev with z | ⟨z1, z2, z3, z4⟩
      · omega
      · rcases z4 with z4 | ⟨_, z4⟩
        · omega
        · rw [show (((9 * w + (e + 1) : Nat) : Int) % 9 - 1).toNat = e by omega, show (((9 * w + (e + 1) : Nat) : Int) / 9).toNat = w by omega] at z4
          exact c2 z4
set_option maxHeartbeats 2000000 in
theorem q_makeTable {B : Nat → Nat → Int} {t : Nat → Int} (hB : GB B) (hW : GW B) (ht : ∀ k, inI (t k)) {n : Nat} (hn : n ≤ 36) {tb re ne : Nat → Int} (hTb : ∀ i, inI (tb i)) (hR : ∀ i, inI (re i)) (hX : ∀ i, inI (ne i)) {nn sl : Int} (en : nn = n) (esl : sl = B 13 0) :
    wp (m_X9_makeTable (B 0) (B 3) (B 1) (B 4) (B 9) (B 7) (B 11) (B 18 0) (B 18 1) sl nn t tb re ne) (fun u => TBL B t n (540 * n) u.1 ∧ (∀ i, inI (u.2.1 i)) ∧ ∀ i, inI (u.2.2 i)) := by
  have hW0 := hW.1
  unfold m_X9_makeTable
  refine wp_bind (P := fun u : Nat × Int × (Nat → Int) × (Nat → Int) × (Nat → Int) => TBL B t n (540 * n) u.2.2.1 ∧ (∀ i, inI (u.2.2.2.1 i)) ∧ ∀ i, inI (u.2.2.2.2 i)) (wp_loop (fun a b => b.1 = (a : Int) ∧ TBL B t n (540 * a) b.2.1 ∧ (∀ i, inI (b.2.2.1 i)) ∧ ∀ i, inI (b.2.2.2 i)) n (by omega) ⟨rfl, ⟨fun a e _ _ h _ => absurd h (by omega), hTb⟩, hR, hX⟩ ?_) ?_
  · intro a b ha hs
    obtain ⟨a1, a2, a3, a4⟩ := hs
    unfold m_X9_makeTable_2
    refine wp_gd (by omega) (wp_gd (by omega) (wp_if (fun c1 => ?_) (fun c1 => ?_)))
    · refine wp_end (by decide) ⟨?_, a3, a4⟩
      rw [show n = a by omega]
      rw [show n = a by omega] at a2
      exact a2
    · refine wp_bind (P := fun u : Nat × Int × (Nat → Int) × (Nat → Int) × (Nat → Int) => TBL B t n (540 * (a + 1)) u.2.2.1 ∧ (∀ i, inI (u.2.2.2.1 i)) ∧ ∀ i, inI (u.2.2.2.2 i)) (wp_loop (fun w d => d.1 = (w : Int) ∧ TBL B t n (540 * a + 9 * w) d.2.1 ∧ (∀ i, inI (d.2.2.1 i)) ∧ ∀ i, inI (d.2.2.2 i)) (B 18 0).toNat (by omega) ⟨rfl, a2, a3, a4⟩ ?_) ?_
      · intro w d hw hs2
        obtain ⟨d1, d2, d3, d4⟩ := hs2
        have ew : d.1.toNat = w := by omega
        unfold m_X9_makeTable_12
        refine wp_gd (by omega) (wp_gd (by omega) (wp_if (fun c2 => ?_) (fun c2 => ?_)))
        · refine wp_end (by decide) ⟨?_, d3, d4⟩
          refine d2.skip (fun a' e' h1 h2 h3 h4 hev => ?_)
          have haa : a' = a := by omega
          subst haa
          rcases hev with z | ⟨z1, z2, z3, z4⟩
          · omega
          · omega
        · have hwW : (w : Int) < B 18 0 := by omega
          obtain ⟨⟨nw, hwr⟩, _, _, hwc⟩ := hW.2.2.1 w hwW
          have hsw := siz_of (by decide) hwr
          have hwn := hwr.2.1
          have hs0 : sds B ((9 * w : Nat) : Int) = pfx (B 4 w) nw := by
            unfold sds esd
            rw [if_pos (by omega), List.append_nil, show (((9 * w : Nat) : Int) / 9).toNat = w by omega, hsw]
          refine wp_bind (P := fun u : Nat × Int × (Nat → Int) => TO B t n a [] u.2.2 ∧ ∀ i, inI (u.2.2 i)) (wp_loop (fun k f => f.1 = (k : Int) ∧ (0 < k → f.2 0 = 0) ∧ (∀ j, 0 < j → j < k → f.2 j = 134217728) ∧ ∀ i, inI (f.2 i)) 37 (by omega) ⟨rfl, fun h => absurd h (by omega), fun j _ h => absurd h (by omega), d3⟩ ?_) ?_
          · intro k f hk hs3
            obtain ⟨f1, f2, f3, f4⟩ := hs3
            unfold m_X9_makeTable_22
            refine wp_gd (by omega) (wp_if (fun c3 => ?_) (fun c3 => ?_))
            · refine wp_end (by decide) ⟨?_, f4⟩
              exact TO_start (by omega) (f2 (by omega)) (fun j h1 h2 => f3 j h1 (by omega))
            · refine wp_if (fun c4 => ?_) (fun c4 => ?_)
              · refine wp_gd (by omega) (wp_vl (wp_vl (wp_go ⟨by omega, by show f.1 + 1 = _; omega, fun _ => ?_, fun j h1 h2 => absurd h2 (by omega), uz_inI f4 (by decide)⟩)))
                show uz f.2 f.1.toNat 0 0 = 0
                rw [show f.1.toNat = 0 by omega, uz_at]
              · refine wp_gd (by omega) (wp_vl (wp_vl (wp_go ⟨by omega, by show f.1 + 1 = _; omega, fun _ => ?_, fun j h1 h2 => ?_, uz_inI f4 (by decide)⟩)))
                · show uz f.2 f.1.toNat 134217728 0 = 0
                  rw [uz_ne _ _ (by omega)]
                  exact f2 (by omega)
                · show uz f.2 f.1.toNat 134217728 j = 134217728
                  by_cases hjk : j = f.1.toNat
                  · rw [hjk, uz_at]
                  · rw [uz_ne _ _ hjk]
                    exact f3 j h1 (by omega)
          · rintro ⟨t22, y3, re1⟩ ⟨g1, g2⟩
            have g1 : TO B t n a [] re1 := g1
            refine wp_bind (P := fun u : Nat × Int × (Nat → Int) × (Nat → Int) => TO B t n a (pfx (B 4 w) nw) u.2.2.1 ∧ (∀ i, inI (u.2.2.1 i)) ∧ ∀ i, inI (u.2.2.2 i)) (wp_loop (fun j f => f.1 = (j : Int) ∧ TO B t n a (pfx (B 4 w) j) f.2.1 ∧ (∀ i, inI (f.2.1 i)) ∧ ∀ i, inI (f.2.2 i)) nw (by omega) ⟨rfl, g1, g2, d4⟩ ?_) ?_
            · intro j f hj hs3
              obtain ⟨f1, f2, f3, f4⟩ := hs3
              unfold m_X9_makeTable_52
              rw [ew]
              refine wp_gd (by omega) (wp_eq (q_sizeOf 6 6 nw (Or.inr (Or.inl ⟨rfl, rfl⟩)) rfl (hW.2.2.2.2 _).1 hwr) (wp_gd (by omega) (wp_gd (by omega) (wp_if (fun c3 => ?_) (fun c3 => ?_)))))
              · refine wp_end (by decide) ⟨?_, f3, f4⟩
                rw [show nw = j by omega]
                exact f2
              · have hjn : j < nw := by omega
                have hp := hwr.2.2.2.1 j hjn
                have hlt2 := pfx_lt hwr j (by omega)
                refine wp_gd (by omega) (wp_eq (q_piece 6 j (Or.inr (Or.inl rfl)) rfl f1 (hW.2.2.2.2 _).1 (by omega)) ?_)
                refine wp_bind (q_oneSound (s := sn (B 4 w) j) (ss := pfx (B 4 w) j) hB ht hn (by omega) (by unfold sn; omega) hlt2 (by rw [pfx_len]; omega) f2 f3 f4 a1 (by unfold sn; omega) en esl) ?_
                rintro ⟨re2, ne2⟩ ⟨h1, h2, h3⟩
                exact wp_vl (wp_go ⟨by omega, by show f.1 + 1 = _; omega, h1, h2, h3⟩)
            · rintro ⟨t52, y3', re2, ne2⟩ ⟨f1, f2, f3⟩
              have f1 : TO B t n a (pfx (B 4 w) nw) re2 := f1
              refine wp_eq (q_cell _ _ _) (wp_eq (q_keepRow (d := 37 * (540 * a + 9 * w)) (by omega) (by omega)) ?_)
              have h9 := TBL.row (a := a) (e := 9 * w) (re := re2) d2 (by omega) f2 (by rw [hs0]; exact f1)
              refine wp_bind (q_mkEnd hB hW ht hn (by omega) hwW h9 f2 f3 a1 d1 en esl _) ?_
              rintro ⟨t104, y3'', tb3, re3, ne3⟩ ⟨k1, k2, k3⟩
              exact wp_vl (wp_go ⟨by omega, by show d.1 + 1 = _; omega, k1, k2, k3⟩)
      · rintro ⟨t12, y2, tb2, re2, ne2⟩ ⟨k1, k2, k3⟩
        exact wp_vl (wp_go ⟨by omega, by show b.1 + 1 = _; omega, k1, k2, k3⟩)
  · rintro ⟨t2, y1, tb2, re2, ne2⟩ hu
    exact wp_some hu
end
section
/-! the reference: cost, kind, step, what is let and allowed -/
def stp (B : Nat → Nat → Int) (k j : Int) : Int := if k = 9 then 0 else B 14 (9 * k + j).toNat - 2 * (bl (B 15 (9 * k + j).toNat) : Int)
/-- a stretch that the breaks let be a part -/
def LT (B : Nat → Nat → Int) (n a b : Nat) : Prop := (a = 0 ∨ B 17 a ≠ 2) ∧ (b = n ∨ B 17 b ≠ 2) ∧ ∀ p, a < p → p < b → B 17 p ≠ 1
/-- a part that the hand allows -/
def AL (B : Nat → Nat → Int) (n a b : Nat) (e : Int) : Prop := LT B n a b ∧ (B 19 a = 0 ∨ B 19 a = 1024 * (b : Int) + e)
theorem CL_of {B : Nat → Nat → Int} {t : Nat → Int} {e : Int} (hn : e ≠ 540) {a b : Nat} (x : Int) : CL B t e a b x ↔ ∃ y, spR B t (sds B e) a b y ∧ x = wct B (e / 9).toNat + epr B e + y := by
  unfold CL
  rw [if_neg hn]
set_option maxHeartbeats 1000000 in
theorem q_rcost {B : Nat → Nat → Int} {t : Nat → Int} (hB : GB B) (hW : GW B) {n : Nat} (hn : n ≤ 36) {tb : Nat → Int} (hT : TBL B t n (540 * n) tb) {a b : Nat} (hab : a < b) (hbn : b ≤ n) {w e : Int} (hw : (0 ≤ w ∧ w < B 18 0) ∨ w = 60) (he : -1 ≤ e ∧ e < B 18 1) (hwe : w = 60 → e = -1) {x1 x2 gu ba : Int} (e1 : x1 = a) (e2 : x2 = b) (eg : gu = B 13 1) (eb : ba = B 13 2) :
    wp (m_X9_costOf x1 x2 w e (B 7) (B 8) (B 11) (B 12) gu ba tb) (fun v => (EV B (9 * w + e + 1) → Lst (CL B t (9 * w + e + 1) a b) 134217728 v) ∧ (¬ EV B (9 * w + e + 1) → v = 134217728)) := by
  have hW0 := hW.1
  have hE0 := hW.2.1
  have hpr := hB.2.2.2.2 1 (by decide)
  unfold m_X9_costOf
  refine wp_gd (by omega) (wp_if (fun c1 => ?_) (fun c1 => ?_))
  · have e9 : 9 * w + e + 1 = 540 := by have := hwe c1; omega
    rw [e9]
    have hev : EV B 540 := Or.inl rfl
    have hCL : ∀ x, CL B t 540 a b x ↔ (b = a + 1 ∧ x = B 13 1) := by
      intro x
      unfold CL
      rw [if_pos rfl]
    refine wp_gd (by omega) (wp_gd (by omega) (wp_if (fun c2 => ?_) (fun c2 => ?_)))
    · refine wp_gd (by omega) (wp_if (fun c3 => ?_) (fun c3 => absurd (hwe c1) c3))
      refine wp_some ⟨fun _ => Or.inr ⟨by omega, (hCL _).mpr ⟨by omega, eg⟩, fun x hx => ?_⟩, fun z => absurd hev z⟩
      have := ((hCL x).mp hx).2
      omega
    · refine wp_some ⟨fun _ => Lst.none (fun x hx => ?_), fun z => absurd hev z⟩
      have := ((hCL x).mp hx).1
      omega
  · have hw' : 0 ≤ w ∧ w < B 18 0 := by
      rcases hw with h | h
      · exact h
      · exact absurd h c1
    obtain ⟨W, eW⟩ : ∃ W : Nat, w = W := ⟨w.toNat, by omega⟩
    obtain ⟨M, eM⟩ : ∃ M : Nat, e + 1 = M := ⟨(e + 1).toNat, by omega⟩
    have eent : 9 * w + e + 1 = ((9 * W + M : Nat) : Int) := by omega
    have hne : (9 * w + e + 1) ≠ 540 := by omega
    have hdiv : ((9 * w + e + 1) / 9).toNat = W := by omega
    have main : EV B (9 * w + e + 1) → wp (m_X9_costOf_54 x1 x2 w e (B 7) (B 8) (B 11) (B 12) gu ba tb) (fun v => (EV B (9 * w + e + 1) → Lst (CL B t (9 * w + e + 1) a b) 134217728 v) ∧ (¬ EV B (9 * w + e + 1) → v = 134217728)) := by
      intro hev
      have hTO := hT.1 a (9 * W + M) (by omega) (by omega) (by omega) (by rw [← eent]; exact hev)
      obtain ⟨g1, g2, _, _, g5, g6⟩ := sds_ok hW hev hne
      have hL : Lst (spR B t (sds B ((9 * W + M : Nat) : Int)) a (a + (b - a))) 134217728 (tb (37 * (540 * a + (9 * W + M)) + (b - a))) := (hTO (b - a) (by omega)).1 (by omega)
      rw [show a + (b - a) = b by omega, ← eent] at hL
      unfold m_X9_costOf_54
      refine wp_eq (q_cell _ _ _) ?_
      have ei : ((((x1 * 60 + w) * 9 + e) + 1) * 37 + x2 - x1).toNat = 37 * (540 * a + (9 * W + M)) + (b - a) := by omega
      have ew : w.toNat = W := by omega
      rw [ei, ew]
      refine wp_gd (by omega) (wp_vl (wp_gd (hT.2 _) (wp_if (fun c2 => ?_) (fun c2 => ?_))))
      · have hmem := hL.mem (by omega)
        have hbd := spR_bd hB _ g1 _ _ _ hmem
        have hc8 : inI (B 8 W) := hB.1 8 _ (by decide) (by decide) (by decide)
        have hcl := (CL_of (B := B) (t := t) hne (a := a) (b := b) _).mpr ⟨_, hmem, rfl⟩
        have hcb := CL_bd hB hW hev hcl
        have hfin : Lst (CL B t (9 * w + e + 1) a b) 134217728 (wct B ((9 * w + e + 1) / 9).toNat + epr B (9 * w + e + 1) + tb (37 * (540 * a + (9 * W + M)) + (b - a))) := by
          refine Or.inr ⟨by omega, hcl, fun x hx => ?_⟩
          obtain ⟨y, h1, h2⟩ := (CL_of hne x).mp hx
          have := (hL.le h1).1
          omega
        refine wp_gd (by omega) (wp_eq (q_bitsOf hc8) (wp_gd (by omega) (wp_if (fun c3 => ?_) (fun c3 => ?_))))
        · refine wp_some ⟨fun _ => ?_, fun z => absurd hev z⟩
          have ep : epr B (9 * w + e + 1) = 0 := by unfold epr; rw [if_pos (by omega)]
          rw [ep, hdiv] at hfin
          unfold wct at hfin
          rw [eb]
          exact hfin
        · have ee : (9 * w + e + 1) % 9 ≠ 0 := by omega
          have ep : epr B (9 * w + e + 1) = B 12 e.toNat := by unfold epr; rw [if_neg ee, show ((9 * w + e + 1) % 9 - 1).toNat = e.toNat by omega]
          refine wp_gd (by omega) (wp_some ⟨fun _ => ?_, fun z => absurd hev z⟩)
          rw [ep, hdiv] at hfin
          unfold wct at hfin
          rw [eb]
          exact hfin
      · refine wp_some ⟨fun _ => Lst.none (fun x hx => ?_), fun z => absurd hev z⟩
        obtain ⟨y, h1, h2⟩ := (CL_of hne x).mp hx
        have := (hL.le h1).2
        exact c2 this
    refine wp_gd (by omega) (wp_if (fun c2 => ?_) (fun c2 => ?_))
    · exact main (Or.inr ⟨by omega, by omega, by omega, Or.inl (by omega)⟩)
    · have ew : w.toNat = W := by omega
      have h11 : inI (B 11 e.toNat) := hB.1 11 _ (by decide) (by decide) (by decide)
      have h7 : inI (B 7 w.toNat) := hB.1 7 _ (by decide) (by decide) (by decide)
      have q1 : ((9 * w + e + 1) % 9 - 1).toNat = e.toNat := by omega
      have q2 : ((9 * w + e + 1) / 9).toNat = w.toNat := by omega
      refine wp_gd (by omega) (wp_gd (by omega) (wp_gd h11 (wp_gd h7 (wp_if (fun c3 => ?_) (fun c3 => ?_)))))
      · exact main (Or.inr ⟨by omega, by omega, by omega, Or.inr ⟨by omega, by rw [q1, q2]; exact c3⟩⟩)
      · have hno : ¬ EV B (9 * w + e + 1) := by
          rintro (z | ⟨_, _, _, z⟩)
          · exact hne z
          · rcases z with z | ⟨_, z⟩
            · omega
            · rw [q1, q2] at z
              exact c3 z
        exact wp_some ⟨fun z => absurd z hno, fun _ => rfl⟩
theorem q_rkind {K : Nat → Int} {w e : Int} (hw : 0 ≤ w ∧ w ≤ 60) (he : -1 ≤ e ∧ e < 8) (hwe : w = 60 → e = -1) : m_X9_kindOf w K = some (kd K (9 * w + e + 1)) := by
  refine wp_out ?_
  unfold m_X9_kindOf kd
  refine wp_gd (by omega) (wp_if (fun c1 => ?_) (fun c1 => ?_))
  · have := hwe c1
    refine wp_some ?_
    rw [if_pos (by omega)]
  · refine wp_gd (by omega) (wp_some ?_)
    rw [if_neg (by omega), show ((9 * w + e + 1) / 9).toNat = w.toNat by omega]
theorem q_stepOf {B : Nat → Nat → Int} (hB : GB B) {k j : Int} (hk : 0 ≤ k ∧ k ≤ 9) (hj : 0 ≤ j ∧ j ≤ 8) : m_X9_stepOf k j (B 14) (B 15) = some (stp B k j) := by
  refine wp_out ?_
  unfold m_X9_stepOf stp
  refine wp_gd (by omega) (wp_if (fun c1 => ?_) (fun c1 => ?_))
  · refine wp_some ?_
    rw [if_pos c1]
  · refine wp_gd (by omega) (wp_gd (by omega) (wp_eq (q_bitsOf (hB.1 15 _ (by decide) (by decide) (by decide))) (wp_some ?_)))
    rw [if_neg c1]
set_option maxHeartbeats 1000000 in
theorem q_isLet {B : Nat → Nat → Int} (hB : GB B) {n a b : Nat} (hn : n ≤ 36) (hab : a < b) (hbn : b ≤ n) {x1 x2 nn : Int} (e1 : x1 = a) (e2 : x2 = b) (en : nn = n) : wp (m_X9_isLet x1 x2 nn (B 17)) (fun v => (v = 1 ∧ LT B n a b) ∨ (v = 0 ∧ ¬ LT B n a b)) := by
  have hI : ∀ i, inI (B 17 i) := fun i => hB.1 17 i (by decide) (by decide) (by decide)
  have ea : x1.toNat = a := by omega
  have eb : x2.toNat = b := by omega
  have h34 : (a = 0 ∨ B 17 a ≠ 2) → (b = n ∨ B 17 b ≠ 2) → wp (m_X9_isLet_34 x1 x2 nn (B 17)) (fun v => (v = 1 ∧ LT B n a b) ∨ (v = 0 ∧ ¬ LT B n a b)) := by
    intro g1 g2
    unfold m_X9_isLet_34
    refine wp_vl (wp_bind (P := fun u : Nat × Int => (u.1 = 1 ∧ ∀ p, a < p → p < b → B 17 p ≠ 1) ∨ (u.1 = 2 ∧ ∃ p, a < p ∧ p < b ∧ B 17 p = 1)) (wp_loop (fun k y => y = ((a + 1 + k : Nat) : Int) ∧ ∀ p, a < p → p < a + 1 + k → B 17 p ≠ 1) (b - a - 1) (by omega) ⟨by omega, fun p h1 h2 => absurd h2 (by omega)⟩ ?_) ?_)
    · intro k y hk hs
      obtain ⟨a1, a2⟩ := hs
      unfold m_X9_isLet_38
      refine wp_gd (by omega) (wp_gd (by omega) (wp_if (fun c1 => ?_) (fun c1 => ?_)))
      · exact wp_end (by decide) (Or.inl ⟨rfl, fun p h1 h2 => a2 p h1 (by omega)⟩)
      · rw [show y.toNat = a + 1 + k by omega]
        refine wp_gd (by omega) (wp_gd (hI _) (wp_if (fun c2 => ?_) (fun c2 => ?_)))
        · exact wp_end (by decide) (Or.inr ⟨rfl, a + 1 + k, by omega, by omega, c2⟩)
        · refine wp_vl (wp_go ⟨by omega, by show y + 1 = _; omega, fun p h1 h2 => ?_⟩)
          by_cases hp : p = a + 1 + k
          · rw [hp]
            exact c2
          · exact a2 p h1 (by omega)
    · rintro ⟨t9, y⟩ hu
      have hu : (t9 = 1 ∧ ∀ p, a < p → p < b → B 17 p ≠ 1) ∨ (t9 = 2 ∧ ∃ p, a < p ∧ p < b ∧ B 17 p = 1) := hu
      show wp (if t9 = 1 then some (1 : Int) else some 0) _
      rcases hu with ⟨u1, u2⟩ | ⟨u1, p, p1, p2, p3⟩
      · exact wp_if (fun _ => wp_some (Or.inl ⟨rfl, g1, g2, u2⟩)) (fun z => absurd u1 z)
      · refine wp_if (fun z => absurd z (by omega)) (fun _ => wp_some (Or.inr ⟨rfl, fun z => z.2.2 p p1 p2 p3⟩))
  have h14 : (a = 0 ∨ B 17 a ≠ 2) → wp (m_X9_isLet_14 x1 x2 nn (B 17)) (fun v => (v = 1 ∧ LT B n a b) ∨ (v = 0 ∧ ¬ LT B n a b)) := by
    intro g1
    unfold m_X9_isLet_14
    rw [eb]
    refine wp_gd (by omega) (wp_gd (by omega) (wp_if (fun c1 => h34 g1 (Or.inl (by omega))) (fun c1 => ?_)))
    refine wp_gd (by omega) (wp_gd (hI _) (wp_if (fun c2 => ?_) (fun c2 => h34 g1 (Or.inr c2))))
    refine wp_some (Or.inr ⟨rfl, fun z => ?_⟩)
    rcases z.2.1 with h | h
    · omega
    · exact h c2
  unfold m_X9_isLet
  rw [ea]
  refine wp_gd (by omega) (wp_if (fun c1 => h14 (Or.inl (by omega))) (fun c1 => ?_))
  refine wp_gd (by omega) (wp_gd (hI _) (wp_if (fun c2 => ?_) (fun c2 => h14 (Or.inr c2))))
  refine wp_some (Or.inr ⟨rfl, fun z => ?_⟩)
  rcases z.1 with h | h
  · omega
  · exact h c2
/-- the fixed parts: the class's row beside the reference's four -/
def FX (B : Nat → Nat → Int) (n fm : Nat) (fF fT fW fE : Nat → Int) : Prop :=
  fm ≤ 36 ∧
  (∀ f, f < fm → (0 ≤ fF f ∧ fF f < fT f ∧ fT f ≤ n) ∧ (0 ≤ fW f ∧ fW f ≤ 60 ∧ -1 ≤ fE f ∧ fE f < 8 ∧ (fW f = 60 → fE f = -1)) ∧ EV B (9 * fW f + fE f + 1) ∧ B 19 (fF f).toNat = 1024 * fT f + (9 * fW f + fE f + 1) ∧ (fF f = 0 ∨ B 17 (fF f).toNat = 1) ∧ (fT f = n ∨ B 17 (fT f).toNat = 1) ∧ ∀ p : Nat, fF f < p → p < fT f → B 17 p = 2) ∧
  (∀ i, i < 36 → B 19 i ≠ 0 → ∃ f, f < fm ∧ fF f = i) ∧ (∀ f g, f < fm → g < fm → fF f = fF g → f = g)
set_option maxHeartbeats 1000000 in
theorem q_isAllowed {B : Nat → Nat → Int} (hB : GB B) {n fm a b : Nat} (hn : n ≤ 36) (hab : a < b) (hbn : b ≤ n) {fF fT fW fE : Nat → Int} (hF : FX B n fm fF fT fW fE) (hFi : ∀ i, inI (fF i) ∧ inI (fT i) ∧ inI (fW i) ∧ inI (fE i)) {w e : Int} (hw : 0 ≤ w ∧ w ≤ 60) (he : -1 ≤ e ∧ e < 8) (hwe : w = 60 → e = -1) {x1 x2 nn mm : Int} (e1 : x1 = a) (e2 : x2 = b) (en : nn = n) (em : mm = fm) :
    wp (m_X9_isAllowed x1 x2 w e nn mm (B 17) fF fT fW fE) (fun v => (v = 1 ∧ AL B n a b (9 * w + e + 1)) ∨ (v = 0 ∧ ¬ AL B n a b (9 * w + e + 1))) := by
  obtain ⟨hfm, hf, hback, _⟩ := hF
  -- a fixed part that overlaps a stretch that is let is that stretch
  have over : LT B n a b → ∀ f, f < fm → (a : Int) < fT f → fF f < (b : Int) → fF f = a ∧ fT f = b := by
    intro hl f hfl h1 h2
    obtain ⟨⟨p1, p2, p3⟩, _, _, _, q1, q2, q3⟩ := hf f hfl
    have c1 : fF f = a := by
      by_cases h : fF f = a
      · exact h
      · exfalso
        by_cases h3 : fF f < a
        · have h4 := q3 a h3 h1
          rcases hl.1 with h5 | h5
          · omega
          · exact h5 h4
        · rcases q1 with h4 | h4
          · omega
          · exact hl.2.2 (fF f).toNat (by omega) (by omega) h4
    have c2 : fT f = b := by
      by_cases h : fT f = b
      · exact h
      · exfalso
        by_cases h3 : fT f < b
        · rcases q2 with h4 | h4
          · omega
          · exact hl.2.2 (fT f).toNat (by omega) (by omega) h4
        · have h4 := q3 b h2 (by omega)
          rcases hl.2.1 with h5 | h5
          · omega
          · exact h5 h4
    exact ⟨c1, c2⟩
  unfold m_X9_isAllowed
  refine wp_bind (q_isLet hB hn hab hbn e1 e2 en) ?_
  intro r hr
  refine wp_bind (P := fun u : Nat × Int × Int => (u.2.1 = 1 ∧ LT B n a b ∧ ∀ f, f < fm → (a : Int) < fT f → fF f < (b : Int) → fW f = w ∧ fE f = e) ∨ (u.2.1 = 0 ∧ (LT B n a b → ∃ f, f < fm ∧ (a : Int) < fT f ∧ fF f < (b : Int) ∧ ¬ (fW f = w ∧ fE f = e)))) (wp_loop (fun k y => y.2 = (k : Int) ∧ ((y.1 = 1 ∧ LT B n a b ∧ ∀ f, f < k → (a : Int) < fT f → fF f < (b : Int) → fW f = w ∧ fE f = e) ∨ (y.1 = 0 ∧ (LT B n a b → ∃ f, f < fm ∧ (a : Int) < fT f ∧ fF f < (b : Int) ∧ ¬ (fW f = w ∧ fE f = e))))) fm (by omega) ⟨rfl, ?_⟩ ?_) ?_
  · rcases hr with ⟨h1, h2⟩ | ⟨h1, h2⟩
    · exact Or.inl ⟨h1, h2, fun f h => absurd h (by omega)⟩
    · exact Or.inr ⟨h1, fun z => absurd z h2⟩
  · intro k y hk hs
    obtain ⟨a1, hs⟩ := hs
    unfold m_X9_isAllowed_11
    have ek : y.2.toNat = k := by omega
    rw [ek]
    refine wp_gd (by omega) (wp_gd (by omega) (wp_if (fun c1 => ?_) (fun c1 => ?_)))
    · refine wp_end (by decide) ?_
      rcases hs with ⟨h1, h2, h3⟩ | h
      · exact Or.inl ⟨h1, h2, fun f hf2 => h3 f (by omega)⟩
      · exact Or.inr h
    · rcases hs with ⟨h1, h2, h3⟩ | ⟨h1, h2⟩
      · have hkf : k < fm := by omega
        have hfi := hFi k
        have hov := over h2 k hkf
        have hstep : ∀ (v : Int), ((v = 1 ∧ ((a : Int) < fT k → fF k < (b : Int) → fW k = w ∧ fE k = e)) ∨ (v = 0 ∧ (a : Int) < fT k ∧ fF k < (b : Int) ∧ ¬ (fW k = w ∧ fE k = e))) → wp (some ((0 : Nat), (v, y.2 + 1))) (fun u : Nat × Int × Int => (u.1 = 0 → k < fm ∧ (u.2.2 = ((k + 1 : Nat) : Int) ∧ ((u.2.1 = 1 ∧ LT B n a b ∧ ∀ f, f < k + 1 → (a : Int) < fT f → fF f < (b : Int) → fW f = w ∧ fE f = e) ∨ (u.2.1 = 0 ∧ (LT B n a b → ∃ f, f < fm ∧ (a : Int) < fT f ∧ fF f < (b : Int) ∧ ¬ (fW f = w ∧ fE f = e)))))) ∧ (u.1 ≠ 0 → (u.2.1 = 1 ∧ LT B n a b ∧ ∀ f, f < fm → (a : Int) < fT f → fF f < (b : Int) → fW f = w ∧ fE f = e) ∨ (u.2.1 = 0 ∧ (LT B n a b → ∃ f, f < fm ∧ (a : Int) < fT f ∧ fF f < (b : Int) ∧ ¬ (fW f = w ∧ fE f = e))))) := by
          intro v hv
          refine wp_some ⟨fun _ => ⟨hkf, by show y.2 + 1 = _; omega, ?_⟩, fun z => absurd rfl z⟩
          rcases hv with ⟨v1, v2⟩ | ⟨v1, v2⟩
          · refine Or.inl ⟨v1, h2, fun f hf2 g1 g2 => ?_⟩
            by_cases hfk : f = k
            · subst hfk
              exact v2 g1 g2
            · exact h3 f (by omega) g1 g2
          · exact Or.inr ⟨v1, fun _ => ⟨k, hkf, v2⟩⟩
        refine wp_gd (by omega) (wp_if (fun z => absurd z (by omega)) (fun _ => ?_))
        refine wp_gd (by omega) (wp_gd hfi.2.1 (wp_gd (by omega) (wp_if (fun c2 => ?_) (fun c2 => ?_))))
        · exact wp_vl (hstep y.1 (Or.inl ⟨h1, fun z => by omega⟩))
        · refine wp_gd (by omega) (wp_gd hfi.1 (wp_gd (by omega) (wp_if (fun c3 => ?_) (fun c3 => ?_))))
          · obtain ⟨o1, o2⟩ := hov (by omega) (by omega)
            refine wp_gd (by omega) (wp_if (fun c4 => ?_) (fun c4 => absurd (by omega) c4))
            refine wp_gd (by omega) (wp_if (fun c5 => ?_) (fun c5 => absurd (by omega) c5))
            refine wp_gd (by omega) (wp_gd hfi.2.2.1 (wp_gd (by omega) (wp_if (fun c6 => ?_) (fun c6 => ?_))))
            · refine wp_gd (by omega) (wp_gd hfi.2.2.2 (wp_gd (by omega) (wp_if (fun c7 => ?_) (fun c7 => ?_))))
              · exact wp_vl (hstep 1 (Or.inl ⟨rfl, fun _ _ => ⟨c6, c7⟩⟩))
              · exact wp_vl (hstep 0 (Or.inr ⟨rfl, by omega, by omega, fun z => c7 z.2⟩))
            · exact wp_vl (hstep 0 (Or.inr ⟨rfl, by omega, by omega, fun z => c6 z.1⟩))
          · exact wp_vl (hstep y.1 (Or.inl ⟨h1, fun _ z => by omega⟩))
      · exact wp_gd (by omega) (wp_if (fun _ => wp_end (by decide) (Or.inr ⟨h1, h2⟩)) (fun z => absurd h1 z))
  · rintro ⟨t9, x5, x6⟩ hu
    have hu : (x5 = 1 ∧ LT B n a b ∧ ∀ f, f < fm → (a : Int) < fT f → fF f < (b : Int) → fW f = w ∧ fE f = e) ∨ (x5 = 0 ∧ (LT B n a b → ∃ f, f < fm ∧ (a : Int) < fT f ∧ fF f < (b : Int) ∧ ¬ (fW f = w ∧ fE f = e))) := hu
    refine wp_gd (by omega) (wp_some ?_)
    rcases hu with ⟨u1, u2, u3⟩ | ⟨u1, u2⟩
    · refine Or.inl ⟨u1, u2, ?_⟩
      by_cases h0 : B 19 a = 0
      · exact Or.inl h0
      · obtain ⟨f, g1, g2⟩ := hback a (by omega) h0
        obtain ⟨⟨p1, p2, p3⟩, _, _, p4, _⟩ := hf f g1
        have h5 := over u2 f g1 (by omega) (by omega)
        have h6 := u3 f g1 (by omega) (by omega)
        refine Or.inr ?_
        rw [show (fF f).toNat = a by omega] at p4
        rw [p4, h5.2, h6.1, h6.2]
    · refine Or.inr ⟨u1, fun z => ?_⟩
      obtain ⟨f, g1, g2, g3, g4⟩ := u2 z.1
      obtain ⟨⟨p1, p2, p3⟩, q0, _, p4, _⟩ := hf f g1
      have h5 := over z.1 f g1 g2 g3
      rw [show (fF f).toNat = a by omega] at p4
      rcases z.2 with h6 | h6
      · omega
      · rw [p4, h5.2] at h6
        exact g4 ⟨by omega, by omega⟩
end
section
/-! each part from a place, in the document's order -/
abbrev st6 : Type := (Nat → Int) × (Nat → Int) × (Nat → Int) × (Nat → Int) × (Nat → Int) × Int
set_option maxHeartbeats 2000000 in
theorem q_eachFrom {B : Nat → Nat → Int} (hW : GW B) {n a : Nat} (hn : n ≤ 36) (ha : a < n) (J : Nat → Nat → st6 → Prop) {x1 fi gu ba nn mm pa f0 k0 : Int} {fF fT fW fE tb : Nat → Int} (e1 : x1 = a) (en : nn = n)
    (hstep : ∀ (w e : Int) (b : Nat) (x5 : Int) (st : st6), ((0 ≤ w ∧ w < B 18 0) ∨ w = 60) → (-1 ≤ e ∧ e < 8) → (w ≠ 60 → e < B 18 1) → (w = 60 → e = -1) → a < b → b ≤ n → x5 = b → J (9 * w + e + 1).toNat b st → wp (m_X9_onePart x1 x5 w e fi (B 6) (B 7) (B 8) (B 11) (B 12) gu ba (B 14) (B 15) nn mm (B 17) fF fT fW fE tb st.1 pa st.2.1 st.2.2.1 st.2.2.2.1 st.2.2.2.2.1 st.2.2.2.2.2 f0 k0) (fun u => J (9 * w + e + 1).toNat (b + 1) u))
    (hnext : ∀ (ent : Nat) (st : st6), J ent (n + 1) st → J (ent + 1) (a + 1) st)
    (hskip : ∀ (ent ent' : Nat) (st : st6), ent ≤ ent' → (∀ z : Nat, ent ≤ z → z < ent' → ¬ EV B z) → J ent (a + 1) st → J ent' (a + 1) st) (st : st6) (h0 : J 0 (a + 1) st) :
    wp (m_X9_eachFrom x1 fi (B 6) (B 7) (B 8) (B 11) (B 12) (B 18 0) (B 18 1) gu ba (B 14) (B 15) nn mm (B 17) fF fT fW fE tb st.1 pa st.2.1 st.2.2.1 st.2.2.2.1 st.2.2.2.2.1 st.2.2.2.2.2 f0 k0) (fun u => J 541 (a + 1) u) := by
  have hW0 := hW.1
  have hE0 := hW.2.1
  have h25 : ∀ (w : Nat) (x3 : Int) (s : st6), (((w : Int) < B 18 0) ∨ w = 60) → x3 = w → J (9 * w) (a + 1) s → wp (m_X9_eachFrom_25 x1 fi x3 (B 6) (B 7) (B 8) (B 11) (B 12) (B 18 0) (B 18 1) gu ba (B 14) (B 15) nn mm (B 17) fF fT fW fE tb s.1 pa s.2.1 s.2.2.1 s.2.2.2.1 s.2.2.2.2.1 s.2.2.2.2.2 f0 k0) (fun u => u.1 = 0 ∧ u.2.1 = ((w + 1 : Nat) : Int) ∧ J (if w + 1 = 61 then 541 else 9 * (w + 1)) (a + 1) u.2.2) := by
    intro w x3 s hw e3 hs
    obtain ⟨Ne, eNe⟩ : ∃ Ne : Nat, (w = 60 ∧ Ne = 1) ∨ (w ≠ 60 ∧ (Ne : Int) = B 18 1 + 1) := by
      by_cases h : w = 60
      · exact ⟨1, Or.inl ⟨h, rfl⟩⟩
      · exact ⟨(B 18 1 + 1).toNat, Or.inr ⟨h, by omega⟩⟩
    unfold m_X9_eachFrom_25
    refine wp_bind (P := fun u : Nat × Int × st6 => J (if w + 1 = 61 then 541 else 9 * (w + 1)) (a + 1) u.2.2) (wp_loop (fun j y => y.1 = -1 + (j : Int) ∧ J (9 * w + j) (a + 1) y.2) Ne (by omega) ⟨rfl, hs⟩ ?_) ?_
    · intro j y hj hst
      obtain ⟨a1, a2⟩ := hst
      have h44 : ∀ t1 : Int, ((w = 60 ∧ t1 = 0) ∨ (w ≠ 60 ∧ t1 = B 18 1)) → wp (m_X9_eachFrom_44 x1 fi x3 y.1 y.1 t1 (B 6) (B 7) (B 8) (B 11) (B 12) (B 18 0) (B 18 1) gu ba (B 14) (B 15) nn mm (B 17) fF fT fW fE tb y.2.1 pa y.2.2.1 y.2.2.2.1 y.2.2.2.2.1 y.2.2.2.2.2.1 y.2.2.2.2.2.2 f0 k0) (fun u : Nat × Int × st6 => (u.1 = 0 → j < Ne ∧ u.2.1 = -1 + ((j + 1 : Nat) : Int) ∧ J (9 * w + (j + 1)) (a + 1) u.2.2) ∧ (u.1 ≠ 0 → J (if w + 1 = 61 then 541 else 9 * (w + 1)) (a + 1) u.2.2)) := by
        intro t1 ht1
        unfold m_X9_eachFrom_44
        refine wp_gd (by omega) (wp_gd (by omega) (wp_if (fun c1 => ?_) (fun c1 => ?_)))
        · refine wp_some ⟨fun z => absurd z Nat.one_ne_zero, fun _ => ?_⟩
          show J _ (a + 1) y.2
          by_cases h60 : w = 60
          · rw [if_pos (by omega)]
            have : 9 * w + j = 541 := by omega
            rw [this] at a2
            exact a2
          · rw [if_neg (by omega)]
            refine hskip _ _ _ (by omega) (fun z z1 z2 hz => ?_) a2
            rcases hz with hz | ⟨_, _, _, hz⟩
            · omega
            · omega
        · refine wp_vl (wp_bind (P := fun u : Nat × Int × st6 => J (9 * w + j) (n + 1) u.2.2) (wp_loop (fun i d => d.1 = ((a + 1 + i : Nat) : Int) ∧ J (9 * w + j) (a + 1 + i) d.2) (n - a) (by omega) ⟨by show x1 + 1 = _; omega, a2⟩ ?_) ?_)
          · intro i d hi hsd
            obtain ⟨d1, d2⟩ := hsd
            unfold m_X9_eachFrom_52
            refine wp_gd (by omega) (wp_gd (by omega) (wp_if (fun c2 => ?_) (fun c2 => ?_)))
            · refine wp_end (by decide) ?_
              show J (9 * w + j) (n + 1) d.2
              rw [show n + 1 = a + 1 + i by omega]
              exact d2
            · have ej : (9 * x3 + y.1 + 1).toNat = 9 * w + j := by omega
              have h9 := hstep x3 y.1 (a + 1 + i) d.1 d.2 (by omega) (by omega) (by omega) (by omega) (by omega) (by omega) d1 (by rw [ej]; exact d2)
              rw [ej] at h9
              refine wp_bind h9 ?_
              rintro ⟨r1, r2, r3, r4, r5, r6⟩ hu
              exact wp_vl (wp_go ⟨by omega, by show d.1 + 1 = _; omega, hu⟩)
          · rintro ⟨t52, y5, r1, r2, r3, r4, r5, r6⟩ hu
            have hu := hnext _ _ hu
            exact wp_vl (wp_some ⟨fun _ => ⟨by omega, by show y.1 + 1 = _; omega, hu⟩, fun z => absurd rfl z⟩)
      unfold m_X9_eachFrom_28
      refine wp_gd (by omega) (wp_if (fun c1 => ?_) (fun c1 => ?_))
      · exact h44 0 (Or.inl ⟨by omega, rfl⟩)
      · exact h44 (B 18 1) (Or.inr ⟨by omega, rfl⟩)
    · rintro ⟨t28, y4, r1, r2, r3, r4, r5, r6⟩ hu
      exact wp_vl (wp_some ⟨rfl, by show x3 + 1 = _; omega, hu⟩)
  unfold m_X9_eachFrom
  refine wp_bind (P := fun u : Nat × Int × st6 => J 541 (a + 1) u.2.2) (wp_loop (fun k y => y.1 = (k : Int) ∧ J (if k = 61 then 541 else 9 * k) (a + 1) y.2) 61 (by omega) ⟨rfl, h0⟩ ?_) ?_
  · intro k y hk hs
    obtain ⟨a1, a2⟩ := hs
    unfold m_X9_eachFrom_2
    refine wp_gd (by omega) (wp_if (fun c1 => ?_) (fun c1 => ?_))
    · refine wp_end (by decide) ?_
      rw [if_pos (by omega)] at a2
      exact a2
    · rw [if_neg (by omega)] at a2
      refine wp_gd (by omega) (wp_if (fun c2 => ?_) (fun c2 => ?_))
      · refine wp_mono (h25 k y.1 y.2 (Or.inl (by omega)) a1 a2) ?_
        rintro u ⟨u1, u2, u3⟩
        exact ⟨fun _ => ⟨by omega, u2, u3⟩, fun z => absurd u1 z⟩
      · refine wp_if (fun c3 => ?_) (fun c3 => ?_)
        · refine wp_mono (h25 k y.1 y.2 (Or.inr (by omega)) a1 a2) ?_
          rintro u ⟨u1, u2, u3⟩
          exact ⟨fun _ => ⟨by omega, u2, u3⟩, fun z => absurd u1 z⟩
        · refine wp_vl (wp_go ⟨by omega, by show y.1 + 1 = _; omega, ?_⟩)
          rw [if_neg (by omega)]
          refine hskip _ _ _ (by omega) (fun z z1 z2 hz => ?_) a2
          rcases hz with hz | ⟨_, _, hz, _⟩
          · omega
          · omega
  · rintro ⟨t2, y3, r1, r2, r3, r4, r5, r6⟩ hu
    exact wp_some hu
end
section
/-! the reference: one part -/
def GS (B : Nat → Nat → Int) : Prop := ∀ i, i < 81 → 0 ≤ B 14 i ∧ B 14 i ≤ 90
theorem stp_bd {B : Nat → Nat → Int} (hS : GS B) {k j : Int} (hk : 0 ≤ k ∧ k ≤ 9) (hj : 0 ≤ j ∧ j ≤ 8) : -62 ≤ stp B k j ∧ stp B k j ≤ 90 := by
  unfold stp
  by_cases h : k = 9
  · rw [if_pos h]
    omega
  · rw [if_neg h]
    have h1 := hS (9 * k + j).toNat (by omega)
    have h2 := bl_le (B 15 (9 * k + j).toNat)
    omega
theorem kd_bd {B : Nat → Nat → Int} (hW : GW B) {e : Int} (he : EV B e) : 0 ≤ kd (B 6) e ∧ kd (B 6) e ≤ 8 := by
  unfold kd
  by_cases h : e = 540
  · rw [if_pos h]
    omega
  · rw [if_neg h]
    rcases he with z | ⟨z1, z2, z3, _⟩
    · exact absurd z h
    · have := (hW.2.2.1 (e / 9).toNat (by omega)).2.2.1
      omega
/-- a part that is allowed, at its least cost -/
def PC (B : Nat → Nat → Int) (t : Nat → Int) (n a b : Nat) (e c : Int) : Prop := (a < b ∧ b ≤ n) ∧ EV B e ∧ AL B n a b e ∧ CL B t e a b c ∧ ∀ x, CL B t e a b x → c ≤ x
theorem PC_one {B : Nat → Nat → Int} {t : Nat → Int} {n a b : Nat} {e c c' : Int} (h : PC B t n a b e c) (h' : PC B t n a b e c') : c = c' := by
  have h1 := h.2.2.2.2 _ h'.2.2.2.1
  have h2 := h'.2.2.2.2 _ h.2.2.2.1
  omega
/-- the rest's row is in its range -/
def RB (n lo : Nat) (rest : Nat → Int) : Prop := (∀ (b : Nat) (k : Nat), lo ≤ b → b ≤ n → k ≤ 9 → rest (10 * b + k) < 134217728 → -(4000 * ((n : Int) - b)) ≤ rest (10 * b + k) ∧ rest (10 * b + k) ≤ 4000 * ((n : Int) - b)) ∧ ∀ i, inI (rest i)
/-- what a part with its rest costs behind a kind -/
def via (B : Nat → Nat → Int) (t : Nat → Int) (n a : Nat) (rest : Nat → Int) (k : Int) (e b : Nat) (x : Int) : Prop := ∃ c, PC B t n a b e c ∧ rest (10 * b + (kd (B 6) e).toNat) < 134217728 ∧ x = c + rest (10 * b + (kd (B 6) e).toNat) + stp B k (kd (B 6) e)
def bfr (ent cb e b : Nat) : Prop := e < ent ∨ (e = ent ∧ b < cb)
def JR (B : Nat → Nat → Int) (t : Nat → Int) (n a : Nat) (s0 : st6) (ent cb : Nat) (st : st6) : Prop := st.2 = s0.2 ∧ (∀ i, 10 * (a + 1) ≤ i → st.1 i = s0.1 i) ∧ (∀ i, inI (st.1 i)) ∧ ∀ k : Nat, k ≤ 9 → Lst (fun x => ∃ e b, bfr ent cb e b ∧ via B t n a s0.1 k e b x) 134217728 (st.1 (10 * a + k))
set_option maxHeartbeats 2000000 in
theorem q_onePart0 {B : Nat → Nat → Int} {t : Nat → Int} (hB : GB B) (hW : GW B) (hS : GS B) {n fm a b : Nat} (hn : n ≤ 36) (hab : a < b) (hbn : b ≤ n) {fF fT fW fE tb : Nat → Int} (hT : TBL B t n (540 * n) tb) (hF : FX B n fm fF fT fW fE) (hFi : ∀ i, inI (fF i) ∧ inI (fT i) ∧ inI (fW i) ∧ inI (fE i)) {s0 st : st6} (hR : RB n (a + 1) s0.1) {w e : Int} (hw : (0 ≤ w ∧ w < B 18 0) ∨ w = 60) (he : -1 ≤ e ∧ e < 8) (he2 : w ≠ 60 → e < B 18 1) (hwe : w = 60 → e = -1) {x1 x5 gu ba nn mm pa f0 k0 : Int} (e1 : x1 = a) (e5 : x5 = b) (eg : gu = B 13 1) (eb : ba = B 13 2) (en : nn = n) (em : mm = fm)
    (hJ : JR B t n a s0 (9 * w + e + 1).toNat b st) : wp (m_X9_onePart x1 x5 w e 0 (B 6) (B 7) (B 8) (B 11) (B 12) gu ba (B 14) (B 15) nn mm (B 17) fF fT fW fE tb st.1 pa st.2.1 st.2.2.1 st.2.2.2.1 st.2.2.2.2.1 st.2.2.2.2.2 f0 k0) (fun u => JR B t n a s0 (9 * w + e + 1).toNat (b + 1) u) := by
  have hW0 := hW.1
  have hE0 := hW.2.1
  obtain ⟨E, eE⟩ : ∃ E : Nat, (9 * w + e + 1) = E := ⟨(9 * w + e + 1).toNat, by omega⟩
  have eE2 : (9 * w + e + 1).toNat = E := by omega
  rw [eE2] at hJ ⊢
  obtain ⟨j1, j2, j3, j4⟩ := hJ
  have hsame : (∀ k x, ¬ via B t n a s0.1 k E b x) → JR B t n a s0 E (b + 1) (st.1, st.2.1, st.2.2.1, st.2.2.2.1, st.2.2.2.2.1, st.2.2.2.2.2) := by
    intro hno
    refine ⟨j1, j2, j3, fun k hk => (j4 k hk).iff (fun x => ?_)⟩
    constructor
    · rintro ⟨e', b', h1, h2⟩
      refine ⟨e', b', ?_, h2⟩
      rcases h1 with h1 | ⟨h1, h3⟩
      · exact Or.inl h1
      · by_cases hb : b' = b
        · subst h1
          subst hb
          exact absurd h2 (hno _ _)
        · exact Or.inr ⟨h1, by omega⟩
    · rintro ⟨e', b', h1, h2⟩
      refine ⟨e', b', ?_, h2⟩
      rcases h1 with h1 | ⟨h1, h3⟩
      · exact Or.inl h1
      · exact Or.inr ⟨h1, by omega⟩
  unfold m_X9_onePart
  refine wp_bind (q_rcost hB hW hn hT hab hbn hw ⟨he.1, by by_cases h : w = 60 <;> omega⟩ hwe e1 e5 eg eb) ?_
  intro c hc
  rw [eE] at hc
  by_cases hev : EV B E
  · have hcl := hc.1 hev
    have hkb := kd_bd hW hev
    have hcI : inI c := by
      rcases hcl with ⟨h1, _⟩ | ⟨h1, h2, _⟩
      · omega
      · have := CL_bd hB hW hev h2
        omega
    refine wp_gd hcI (wp_if (fun c1 => ?_) (fun c1 => ?_))
    · refine wp_some (hsame (fun k x hx => ?_))
      obtain ⟨c', h1, _⟩ := hx
      have := (hcl.le h1.2.2.2.1).2
      omega
    · have hmem := hcl.mem (by omega)
      have hcb := CL_bd hB hW hev hmem
      have hk := q_rkind (K := B 6) (w := w) (e := e) (by omega) he hwe
      rw [eE] at hk
      have hkk : 10 * x5 + kd (B 6) E = ((10 * b + (kd (B 6) E).toNat : Nat) : Int) := by omega
      have hkt : (10 * x5 + kd (B 6) E).toNat = 10 * b + (kd (B 6) E).toNat := by omega
      have hr0 : st.1 (10 * b + (kd (B 6) E).toNat) = s0.1 (10 * b + (kd (B 6) E).toNat) := j2 _ (by omega)
      refine wp_eq hk (wp_eq (show m_X9_at x5 (kd (B 6) E) = some (10 * x5 + kd (B 6) E) from rfl) ?_)
      rw [hkt, hr0]
      refine wp_gd (by omega) (wp_gd (hR.2 _) (wp_if (fun c2 => ?_) (fun c2 => ?_)))
      · refine wp_some (hsame (fun k x hx => ?_))
        obtain ⟨c', _, h2, _⟩ := hx
        omega
      · have hrb := hR.1 b (kd (B 6) E).toNat (by omega) hbn (by omega) (by omega)
        refine wp_bind (q_isAllowed hB hn hab hbn hF hFi (w := w) (e := e) (by omega) he hwe e1 e5 en em) ?_
        intro r hr
        rw [eE] at hr
        refine wp_gd (by omega) (wp_if (fun c3 => ?_) (fun c3 => ?_))
        · refine wp_some (hsame (fun k x hx => ?_))
          obtain ⟨c', h1, _⟩ := hx
          rcases hr with ⟨r1, _⟩ | ⟨_, r2⟩
          · omega
          · exact r2 h1.2.2.1
        · have hal : AL B n a b E := by
            rcases hr with ⟨_, r2⟩ | ⟨r1, _⟩
            · exact r2
            · omega
          have hpc : PC B t n a b E c := ⟨⟨hab, hbn⟩, hev, hal, hmem, fun x hx => (hcl.le hx).1⟩
          refine wp_eq hk (wp_eq (show m_X9_at x5 (kd (B 6) E) = some (10 * x5 + kd (B 6) E) from rfl) ?_)
          rw [hkt, hr0]
          refine wp_gd (by omega) (wp_vl (wp_gd (by omega) (wp_if (fun _ => ?_) (fun z => absurd rfl z))))
          obtain ⟨v, ev⟩ : ∃ v : Int, v = c + s0.1 (10 * b + (kd (B 6) E).toNat) := ⟨_, rfl⟩
          rw [← ev]
          refine wp_bind (P := fun u : Nat × Int × (Nat → Int) => (∀ i, 10 * (a + 1) ≤ i → u.2.2 i = st.1 i) ∧ (∀ i, inI (u.2.2 i)) ∧ ∀ k : Nat, k ≤ 9 → u.2.2 (10 * a + k) = min (st.1 (10 * a + k)) (v + stp B k (kd (B 6) E))) (wp_loop (fun k y => y.1 = (k : Int) ∧ (∀ i, 10 * (a + 1) ≤ i → y.2 i = st.1 i) ∧ (∀ i, inI (y.2 i)) ∧ (∀ k' : Nat, k' ≤ 9 → y.2 (10 * a + k') = if k' < k then min (st.1 (10 * a + k')) (v + stp B k' (kd (B 6) E)) else st.1 (10 * a + k'))) 10 (by omega) ⟨rfl, fun i _ => rfl, j3, fun k' _ => by rw [if_neg (by omega)]⟩ ?_) ?_
          · intro k y hk10 hs
            obtain ⟨a1, a2, a3, a4⟩ := hs
            unfold m_X9_onePart_77
            refine wp_gd (by omega) (wp_if (fun c4 => ?_) (fun c4 => ?_))
            · refine wp_end (by decide) ⟨a2, a3, fun k' hk' => ?_⟩
              have := a4 k' hk'
              rw [if_pos (by omega)] at this
              exact this
            · have hst := stp_bd hS (k := (k : Int)) (by omega) hkb
              refine wp_eq (show m_X9_at x1 y.1 = some (10 * x1 + y.1) from rfl) (wp_eq (show m_X9_at x1 y.1 = some (10 * x1 + y.1) from rfl) ?_)
              have et : (10 * x1 + y.1).toNat = 10 * a + k := by omega
              refine wp_gd (by omega) (wp_eq hk (wp_eq (q_stepOf hB (k := y.1) (by omega) hkb) ?_))
              rw [et, a1]
              have a5 := a4 k (by omega)
              rw [if_neg (by omega)] at a5
              refine wp_gd (a3 _) (wp_gd (by omega) (wp_gd (by omega) (wp_vl (wp_vl (wp_go ⟨by omega, by show (k : Int) + 1 = _; omega, fun i hi => ?_, ?_, fun k' hk' => ?_⟩)))))
              · show uz y.2 (10 * a + k) _ i = _
                rw [uz_ne _ _ (by omega)]
                exact a2 i hi
              · have := a3 (10 * a + k)
                exact uz_inI a3 (by omega)
              · show uz y.2 (10 * a + k) _ (10 * a + k') = _
                by_cases hkk' : k' = k
                · rw [hkk', uz_at, if_pos (by omega), a5]
                · rw [uz_ne _ _ (by omega), a4 k' hk']
                  by_cases h8 : k' < k
                  · rw [if_pos h8, if_pos (by omega)]
                  · rw [if_neg h8, if_neg (by omega)]
          · rintro ⟨t77, y8, re⟩ ⟨u1, u2, u3⟩
            have u1 : ∀ i, 10 * (a + 1) ≤ i → re i = st.1 i := u1
            have u3 : ∀ k : Nat, k ≤ 9 → re (10 * a + k) = min (st.1 (10 * a + k)) (v + stp B k (kd (B 6) E)) := u3
            refine wp_some ⟨j1, fun i hi => ?_, u2, fun k hk9 => ?_⟩
            · show re i = _
              rw [u1 i hi]
              exact j2 i hi
            · show Lst _ 134217728 (re (10 * a + k))
              rw [u3 k hk9]
              have hst := stp_bd hS (k := (k : Int)) (by omega) hkb
              refine (j4 k hk9).push (by omega) (fun x => ?_)
              constructor
              · rintro ⟨e', b', h1, h2⟩
                by_cases heq : e' = E ∧ b' = b
                · obtain ⟨rfl, rfl⟩ := heq
                  obtain ⟨c', h3, _, h5⟩ := h2
                  have := PC_one h3 hpc
                  exact Or.inr (by omega)
                · refine Or.inl ⟨e', b', ?_, h2⟩
                  unfold bfr at h1 ⊢
                  omega
              · rintro (⟨e', b', h1, h2⟩ | rfl)
                · refine ⟨e', b', ?_, h2⟩
                  unfold bfr at h1 ⊢
                  omega
                · exact ⟨E, b, Or.inr ⟨rfl, by omega⟩, c, hpc, by omega, by omega⟩
  · have hcN := hc.2 hev
    refine wp_gd (by omega) (wp_if (fun c1 => ?_) (fun c1 => absurd (by omega) c1))
    refine wp_some (hsame (fun k x hx => ?_))
    obtain ⟨c', h1, _⟩ := hx
    exact hev h1.2.1
end
section
/-! the reference: the first of the parts with which the rest costs what is wanted -/
def mtc (B : Nat → Nat → Int) (t : Nat → Int) (n a : Nat) (rest : Nat → Int) (k wanted : Int) (e b : Nat) : Prop := via B t n a rest k e b wanted
def JF (B : Nat → Nat → Int) (t : Nat → Int) (n a : Nat) (k wanted : Int) (pa : Nat) (s0 : st6) (ent cb : Nat) (st : st6) : Prop := st.1 = s0.1 ∧ ((st.2.2.2.2.2 = 0 ∧ st.2.1 = s0.2.1 ∧ st.2.2.1 = s0.2.2.1 ∧ st.2.2.2.1 = s0.2.2.2.1 ∧ st.2.2.2.2.1 = s0.2.2.2.2.1 ∧ ∀ e b, bfr ent cb e b → ¬ mtc B t n a s0.1 k wanted e b) ∨ (st.2.2.2.2.2 = 1 ∧ ∃ e b : Nat, bfr ent cb e b ∧ mtc B t n a s0.1 k wanted e b ∧ (∀ e' b', bfr e b e' b' → ¬ mtc B t n a s0.1 k wanted e' b') ∧ st.2.1 = uz s0.2.1 pa a ∧ st.2.2.1 = uz s0.2.2.1 pa b ∧ st.2.2.2.1 = uz s0.2.2.2.1 pa ((e : Int) / 9) ∧ st.2.2.2.2.1 = uz s0.2.2.2.2.1 pa ((e : Int) % 9 - 1)))
theorem JF.later {B : Nat → Nat → Int} {t : Nat → Int} {n a : Nat} {k wanted : Int} {pa : Nat} {s0 : st6} {ent cb ent' cb' : Nat} {st : st6} (h : JF B t n a k wanted pa s0 ent cb st) (h1 : ∀ e b, bfr ent cb e b → bfr ent' cb' e b) (h2 : ∀ e b, bfr ent' cb' e b → ¬ bfr ent cb e b → ¬ mtc B t n a s0.1 k wanted e b) : JF B t n a k wanted pa s0 ent' cb' st := by
  refine ⟨h.1, ?_⟩
  rcases h.2 with ⟨a1, a2, a3, a4, a5, a6⟩ | ⟨a1, e, b, a2, a3⟩
  · refine Or.inl ⟨a1, a2, a3, a4, a5, fun e b hb => ?_⟩
    by_cases hc : bfr ent cb e b
    · exact a6 e b hc
    · exact h2 e b hb hc
  · exact Or.inr ⟨a1, e, b, h1 e b a2, a3⟩
set_option maxHeartbeats 2000000 in
theorem q_onePart1 {B : Nat → Nat → Int} {t : Nat → Int} (hB : GB B) (hW : GW B) (hS : GS B) {n fm a b : Nat} (hn : n ≤ 36) (hab : a < b) (hbn : b ≤ n) {fF fT fW fE tb : Nat → Int} (hT : TBL B t n (540 * n) tb) (hF : FX B n fm fF fT fW fE) (hFi : ∀ i, inI (fF i) ∧ inI (fT i) ∧ inI (fW i) ∧ inI (fE i)) {s0 st : st6} (hR : RB n a s0.1) {w e : Int} (hw : (0 ≤ w ∧ w < B 18 0) ∨ w = 60) (he : -1 ≤ e ∧ e < 8) (he2 : w ≠ 60 → e < B 18 1) (hwe : w = 60 → e = -1) {x1 x5 gu ba nn mm pa f0 k0 : Int} {P K : Nat} (e1 : x1 = a) (e5 : x5 = b) (eg : gu = B 13 1) (eb : ba = B 13 2) (en : nn = n) (em : mm = fm) (ep : pa = P) (hP : P < 36) (ef : f0 = a) (ek0 : k0 = K) (hK : K ≤ 9)
    (hJ : JF B t n a k0 (s0.1 (10 * a + K)) P s0 (9 * w + e + 1).toNat b st) : wp (m_X9_onePart x1 x5 w e 1 (B 6) (B 7) (B 8) (B 11) (B 12) gu ba (B 14) (B 15) nn mm (B 17) fF fT fW fE tb st.1 pa st.2.1 st.2.2.1 st.2.2.2.1 st.2.2.2.2.1 st.2.2.2.2.2 f0 k0) (fun u => JF B t n a k0 (s0.1 (10 * a + K)) P s0 (9 * w + e + 1).toNat (b + 1) u) := by
  have hW0 := hW.1
  have hE0 := hW.2.1
  obtain ⟨E, eE⟩ : ∃ E : Nat, (9 * w + e + 1) = E := ⟨(9 * w + e + 1).toNat, by omega⟩
  have eE2 : (9 * w + e + 1).toNat = E := by omega
  rw [eE2] at hJ ⊢
  have j1 := hJ.1
  have hmono : ∀ e' b', bfr E b e' b' → bfr E (b + 1) e' b' := by
    intro e' b' h
    unfold bfr at h ⊢
    omega
  have hnew : ∀ e' b', bfr E (b + 1) e' b' → ¬ bfr E b e' b' → e' = E ∧ b' = b := by
    intro e' b' h1 h2
    unfold bfr at h1 h2
    omega
  have hsame : ¬ mtc B t n a s0.1 k0 (s0.1 (10 * a + K)) E b → JF B t n a k0 (s0.1 (10 * a + K)) P s0 E (b + 1) (st.1, st.2.1, st.2.2.1, st.2.2.2.1, st.2.2.2.2.1, st.2.2.2.2.2) := by
    intro hno
    refine hJ.later hmono (fun e' b' h1 h2 => ?_)
    obtain ⟨rfl, rfl⟩ := hnew e' b' h1 h2
    exact hno
  unfold m_X9_onePart
  refine wp_bind (q_rcost hB hW hn hT hab hbn hw ⟨he.1, by by_cases h : w = 60 <;> omega⟩ hwe e1 e5 eg eb) ?_
  intro c hc
  rw [eE] at hc
  by_cases hev : EV B E
  · have hcl := hc.1 hev
    have hkb := kd_bd hW hev
    have hcI : inI c := by
      rcases hcl with ⟨h1, _⟩ | ⟨h1, h2, _⟩
      · omega
      · have := CL_bd hB hW hev h2
        omega
    refine wp_gd hcI (wp_if (fun c1 => ?_) (fun c1 => ?_))
    · refine wp_some (hsame (fun hx => ?_))
      obtain ⟨c', h1, _⟩ := hx
      have := (hcl.le h1.2.2.2.1).2
      omega
    · have hmem := hcl.mem (by omega)
      have hcb := CL_bd hB hW hev hmem
      have hk := q_rkind (K := B 6) (w := w) (e := e) (by omega) he hwe
      rw [eE] at hk
      have hkt : (10 * x5 + kd (B 6) E).toNat = 10 * b + (kd (B 6) E).toNat := by omega
      refine wp_eq hk (wp_eq (show m_X9_at x5 (kd (B 6) E) = some (10 * x5 + kd (B 6) E) from rfl) ?_)
      rw [hkt, j1]
      refine wp_gd (by omega) (wp_gd (hR.2 _) (wp_if (fun c2 => ?_) (fun c2 => ?_)))
      · refine wp_some ?_
        have h9 := hsame (fun hx => by obtain ⟨c', _, h2, _⟩ := hx; omega)
        rw [j1] at h9
        exact h9
      · have hrb := hR.1 b (kd (B 6) E).toNat (by omega) hbn (by omega) (by omega)
        refine wp_bind (q_isAllowed hB hn hab hbn hF hFi (w := w) (e := e) (by omega) he hwe e1 e5 en em) ?_
        intro r hr
        rw [eE] at hr
        refine wp_gd (by omega) (wp_if (fun c3 => ?_) (fun c3 => ?_))
        · refine wp_some ?_
          have h9 := hsame (fun hx => by
            obtain ⟨c', h1, _⟩ := hx
            rcases hr with ⟨r1, _⟩ | ⟨_, r2⟩
            · omega
            · exact r2 h1.2.2.1)
          rw [j1] at h9
          exact h9
        · have hal : AL B n a b E := by
            rcases hr with ⟨_, r2⟩ | ⟨r1, _⟩
            · exact r2
            · omega
          have hpc : PC B t n a b E c := ⟨⟨hab, hbn⟩, hev, hal, hmem, fun x hx => (hcl.le hx).1⟩
          have hst := stp_bd hS (k := k0) (by omega) hkb
          have hmt : ∀ z, mtc B t n a s0.1 k0 z E b ↔ c + s0.1 (10 * b + (kd (B 6) E).toNat) + stp B k0 (kd (B 6) E) = z := by
            intro z
            constructor
            · rintro ⟨c', h1, _, h3⟩
              have := PC_one h1 hpc
              omega
            · intro h
              exact ⟨c, hpc, by omega, by omega⟩
          refine wp_eq hk (wp_eq (show m_X9_at x5 (kd (B 6) E) = some (10 * x5 + kd (B 6) E) from rfl) ?_)
          rw [hkt]
          refine wp_gd (by omega) (wp_vl (wp_gd (by decide) (wp_if (fun z => absurd z (by decide)) (fun _ => ?_))))
          have hfI : inI st.2.2.2.2.2 := by
            rcases hJ.2 with ⟨z, _⟩ | ⟨z, _⟩ <;> omega
          refine wp_gd hfI (wp_if (fun c4 => ?_) (fun c4 => ?_))
          · have et : (10 * f0 + k0).toNat = 10 * a + K := by omega
            have hr2 := hR.2 (10 * a + K)
            refine wp_eq hk (wp_eq (q_stepOf hB (k := k0) (by omega) hkb) (wp_eq (show m_X9_at f0 k0 = some (10 * f0 + k0) from rfl) ?_))
            rw [et]
            refine wp_gd (by omega) (wp_gd (by omega) (wp_gd hr2 (wp_if (fun c5 => ?_) (fun c5 => ?_))))
            · refine wp_gd (by omega) (wp_vl (wp_gd (by omega) (wp_vl (wp_gd (by omega) (wp_vl (wp_gd (by omega) (wp_vl (wp_some ?_))))))))
              rcases hJ.2 with ⟨a1, a2, a3, a4, a5, a6⟩ | ⟨a1, _⟩
              · rw [a2, a3, a4, a5, show pa.toNat = P by omega]
                refine ⟨rfl, Or.inr ⟨rfl, E, b, Or.inr ⟨rfl, by omega⟩, (hmt _).mpr c5, a6, ?_, ?_, ?_, ?_⟩⟩
                · show uz s0.2.1 P x1 = _
                  rw [e1]
                · show uz s0.2.2.1 P x5 = _
                  rw [e5]
                · show uz s0.2.2.2.1 P w = _
                  rw [show w = (E : Int) / 9 by omega]
                · show uz s0.2.2.2.2.1 P e = _
                  rw [show e = (E : Int) % 9 - 1 by omega]
              · omega
            · refine wp_some ?_
              have h9 := hsame (fun hx => c5 ((hmt _).mp hx))
              rw [j1] at h9
              exact h9
          · refine wp_some ?_
            refine ⟨rfl, ?_⟩
            rcases hJ.2 with ⟨a1, _⟩ | ⟨a1, e', b', a2, a3⟩
            · exact absurd a1 c4
            · exact Or.inr ⟨a1, e', b', hmono _ _ a2, a3⟩
  · have hcN := hc.2 hev
    refine wp_gd (by omega) (wp_if (fun c1 => ?_) (fun c1 => absurd (by omega) c1))
    refine wp_some (hsame (fun hx => ?_))
    obtain ⟨c', h1, _⟩ := hx
    exact hev h1.2.1
end
section
/-! the reference's reading -/
/-- the same, of any row of rests and any number that stands for none -/
def viaG (B : Nat → Nat → Int) (t : Nat → Int) (n a : Nat) (R : Nat → Nat → Int) (far : Int) (k : Int) (e b : Nat) (x : Int) : Prop := ∃ c, PC B t n a b e c ∧ R b (kd (B 6) e).toNat < far ∧ x = c + R b (kd (B 6) e).toNat + stp B k (kd (B 6) e)
theorem via_G {B : Nat → Nat → Int} {t : Nat → Int} {n a : Nat} {rest : Nat → Int} {k : Int} {e b : Nat} {x : Int} : via B t n a rest k e b x ↔ viaG B t n a (fun b k => rest (10 * b + k)) 134217728 k e b x := Iff.rfl
theorem via_in {B : Nat → Nat → Int} {t : Nat → Int} {n a : Nat} {rest : Nat → Int} {k : Int} {e b : Nat} {x : Int} (h : via B t n a rest k e b x) : a < b ∧ b ≤ n ∧ EV B e ∧ e ≤ 540 := by
  obtain ⟨c, h1, _⟩ := h
  refine ⟨h1.1.1, h1.1.2, h1.2.1, ?_⟩
  rcases h1.2.1 with z | z
  · omega
  · omega
/-- each least rest from lo on is right -/
def BR (B : Nat → Nat → Int) (t : Nat → Int) (n lo : Nat) (rest : Nat → Int) : Prop := (∀ k : Nat, k ≤ 9 → rest (10 * n + k) = 0) ∧ RB n lo rest ∧ ∀ a : Nat, lo ≤ a → a < n → ∀ k : Nat, k ≤ 9 → Lst (fun x => ∃ e b, via B t n a rest k e b x) 134217728 (rest (10 * a + k))
theorem via_congr {B : Nat → Nat → Int} {t : Nat → Int} {n a : Nat} {f g : Nat → Int} (h : ∀ i, 10 * (a + 1) ≤ i → g i = f i) {k : Int} {e b : Nat} {x : Int} : via B t n a g k e b x ↔ via B t n a f k e b x := by
  constructor
  · rintro ⟨c, h1, h2, h3⟩
    have := h1.1.1
    rw [h _ (by omega)] at h2 h3
    exact ⟨c, h1, h2, h3⟩
  · rintro ⟨c, h1, h2, h3⟩
    have := h1.1.1
    rw [← h _ (by omega)] at h2 h3
    exact ⟨c, h1, h2, h3⟩
theorem via_bd {B : Nat → Nat → Int} {t : Nat → Int} (hB : GB B) (hW : GW B) (hS : GS B) {n a : Nat} {rest : Nat → Int} (hR : RB n (a + 1) rest) {k : Int} (hk : 0 ≤ k ∧ k ≤ 9) {e b : Nat} {x : Int} (h : via B t n a rest k e b x) : -(4000 * ((n : Int) - a)) ≤ x ∧ x ≤ 4000 * ((n : Int) - a) := by
  obtain ⟨c, h1, h2, h3⟩ := h
  have hc := CL_bd hB hW h1.2.1 h1.2.2.2.1
  have hkb := kd_bd hW h1.2.1
  have hs := stp_bd hS hk hkb
  have h4 := h1.1.1
  have h5 := hR.1 b (kd (B 6) e).toNat (by omega) h1.1.2 (by omega) h2
  omega
set_option maxHeartbeats 2000000 in
theorem q_each0 {B : Nat → Nat → Int} {t : Nat → Int} (hB : GB B) (hW : GW B) (hS : GS B) {n fm a : Nat} (hn : n ≤ 36) (ha : a < n) {fF fT fW fE tb : Nat → Int} (hT : TBL B t n (540 * n) tb) (hF : FX B n fm fF fT fW fE) (hFi : ∀ i, inI (fF i) ∧ inI (fT i) ∧ inI (fW i) ∧ inI (fE i)) {s0 : st6} (hR : BR B t n (a + 1) s0.1) (hN : ∀ k : Nat, k ≤ 9 → s0.1 (10 * a + k) = 134217728) {x1 gu ba nn mm pa f0 k0 : Int} (e1 : x1 = a) (eg : gu = B 13 1) (eb : ba = B 13 2) (en : nn = n) (em : mm = fm) :
    wp (m_X9_eachFrom x1 0 (B 6) (B 7) (B 8) (B 11) (B 12) (B 18 0) (B 18 1) gu ba (B 14) (B 15) nn mm (B 17) fF fT fW fE tb s0.1 pa s0.2.1 s0.2.2.1 s0.2.2.2.1 s0.2.2.2.2.1 s0.2.2.2.2.2 f0 k0) (fun u => BR B t n a u.1 ∧ u.2 = s0.2) := by
  refine wp_mono (q_eachFrom hW hn ha (JR B t n a s0) e1 en ?_ ?_ ?_ s0 ?_) ?_
  · intro w e b x5 st hw he he2 hwe hab hbn e5 hJ
    exact q_onePart0 hB hW hS hn hab hbn hT hF hFi hR.2.1 hw he he2 hwe e1 e5 eg eb en em hJ
  · rintro ent st ⟨j1, j2, j3, j4⟩
    refine ⟨j1, j2, j3, fun k hk => (j4 k hk).iff (fun x => ?_)⟩
    constructor
    · rintro ⟨e, b, h1, h2⟩
      have h3 := via_in h2
      refine ⟨e, b, ?_, h2⟩
      unfold bfr at h1 ⊢
      omega
    · rintro ⟨e, b, h1, h2⟩
      have h3 := via_in h2
      refine ⟨e, b, ?_, h2⟩
      unfold bfr at h1 ⊢
      omega
  · rintro ent ent' st hle hno ⟨j1, j2, j3, j4⟩
    refine ⟨j1, j2, j3, fun k hk => (j4 k hk).iff (fun x => ?_)⟩
    constructor
    · rintro ⟨e, b, h1, h2⟩
      have h3 := via_in h2
      refine ⟨e, b, ?_, h2⟩
      by_cases h4 : e < ent
      · exact Or.inl h4
      · by_cases h5 : e < ent'
        · exact absurd h3.2.2.1 (hno e (by omega) h5)
        · unfold bfr at h1 ⊢
          omega
    · rintro ⟨e, b, h1, h2⟩
      have h3 := via_in h2
      refine ⟨e, b, ?_, h2⟩
      unfold bfr at h1 ⊢
      omega
  · refine ⟨rfl, fun i _ => rfl, hR.2.1.2, fun k hk => ?_⟩
    rw [hN k hk]
    refine Lst.none ?_
    rintro x ⟨e, b, h1, h2⟩
    have h3 := via_in h2
    unfold bfr at h1
    omega
  · rintro u ⟨j1, j2, j3, j4⟩
    obtain ⟨r1, r2, r3⟩ := hR
    have hall : ∀ k : Nat, k ≤ 9 → Lst (fun x => ∃ e b, via B t n a u.1 k e b x) 134217728 (u.1 (10 * a + k)) := by
      intro k hk
      refine (j4 k hk).iff (fun x => ?_)
      constructor
      · rintro ⟨e, b, h2⟩
        have h3 := (via_congr (fun i hi => j2 i hi)).mp h2
        have h4 := via_in h3
        exact ⟨e, b, Or.inl (by omega), h3⟩
      · rintro ⟨e, b, _, h2⟩
        exact ⟨e, b, (via_congr (fun i hi => j2 i hi)).mpr h2⟩
    refine ⟨⟨fun k hk => ?_, ⟨fun b k hb hbn hk hlt => ?_, j3⟩, fun a' h1 h2 k hk => ?_⟩, j1⟩
    · rw [j2 _ (by omega)]
      exact r1 k hk
    · by_cases hba : b = a
      · subst hba
        obtain ⟨e, b', h5⟩ := (hall k hk).mem (by omega)
        have h6 := (via_congr (fun i hi => j2 i hi)).mp h5
        exact via_bd hB hW hS r2 (by omega) h6
      · rw [j2 _ (by omega)] at hlt ⊢
        exact r2.1 b k (by omega) hbn hk hlt
    · by_cases haa : a' = a
      · subst haa
        exact hall k hk
      · rw [j2 _ (by omega)]
        refine (r3 a' (by omega) h2 k hk).iff (fun x => ?_)
        constructor
        · rintro ⟨e, b, h5⟩
          exact ⟨e, b, (via_congr (fun i hi => j2 i (by omega))).mp h5⟩
        · rintro ⟨e, b, h5⟩
          exact ⟨e, b, (via_congr (fun i hi => j2 i (by omega))).mpr h5⟩
/-- the first of the parts with which the rest costs what is wanted -/
def FM (B : Nat → Nat → Int) (t : Nat → Int) (n a : Nat) (rest : Nat → Int) (k wanted : Int) (e b : Nat) : Prop := via B t n a rest k e b wanted ∧ ∀ e' b', bfr e b e' b' → ¬ via B t n a rest k e' b' wanted
set_option maxHeartbeats 2000000 in
theorem q_each1 {B : Nat → Nat → Int} {t : Nat → Int} (hB : GB B) (hW : GW B) (hS : GS B) {n fm a : Nat} (hn : n ≤ 36) (ha : a < n) {fF fT fW fE tb : Nat → Int} (hT : TBL B t n (540 * n) tb) (hF : FX B n fm fF fT fW fE) (hFi : ∀ i, inI (fF i) ∧ inI (fT i) ∧ inI (fW i) ∧ inI (fE i)) {s0 : st6} (hR : BR B t n 0 s0.1) (hf0 : s0.2.2.2.2.2 = 0) {x1 gu ba nn mm pa f0 k0 : Int} {P K : Nat} (e1 : x1 = a) (eg : gu = B 13 1) (eb : ba = B 13 2) (en : nn = n) (em : mm = fm) (ep : pa = P) (hP : P < 36) (ef : f0 = a) (ek0 : k0 = K) (hK : K ≤ 9) (hlt : s0.1 (10 * a + K) < 134217728) :
    wp (m_X9_eachFrom x1 1 (B 6) (B 7) (B 8) (B 11) (B 12) (B 18 0) (B 18 1) gu ba (B 14) (B 15) nn mm (B 17) fF fT fW fE tb s0.1 pa s0.2.1 s0.2.2.1 s0.2.2.2.1 s0.2.2.2.2.1 s0.2.2.2.2.2 f0 k0) (fun u => u.1 = s0.1 ∧ ∃ e b : Nat, FM B t n a s0.1 K (s0.1 (10 * a + K)) e b ∧ u.2.1 = uz s0.2.1 P a ∧ u.2.2.1 = uz s0.2.2.1 P b ∧ u.2.2.2.1 = uz s0.2.2.2.1 P ((e : Int) / 9) ∧ u.2.2.2.2.1 = uz s0.2.2.2.2.1 P ((e : Int) % 9 - 1)) := by
  have hRB : RB n a s0.1 := ⟨fun b k h1 h2 h3 h4 => hR.2.1.1 b k (by omega) h2 h3 h4, hR.2.1.2⟩
  refine wp_mono (q_eachFrom hW hn ha (JF B t n a k0 (s0.1 (10 * a + K)) P s0) e1 en ?_ ?_ ?_ s0 ?_) ?_
  · intro w e b x5 st hw he he2 hwe hab hbn e5 hJ
    exact q_onePart1 hB hW hS hn hab hbn hT hF hFi hRB hw he he2 hwe e1 e5 eg eb en em ep hP ef ek0 hK hJ
  · intro ent st hJ
    have key : ∀ e b, mtc B t n a s0.1 k0 (s0.1 (10 * a + K)) e b → (bfr ent (n + 1) e b ↔ bfr (ent + 1) (a + 1) e b) := by
      intro e b h2
      have h3 := via_in h2
      unfold bfr
      omega
    refine ⟨hJ.1, ?_⟩
    rcases hJ.2 with ⟨a1, a2, a3, a4, a5, a6⟩ | ⟨a1, e, b, a2, a3, a4⟩
    · exact Or.inl ⟨a1, a2, a3, a4, a5, fun e b hb hm => a6 e b ((key e b hm).mpr hb) hm⟩
    · exact Or.inr ⟨a1, e, b, (key e b a3).mp a2, a3, a4⟩
  · intro ent ent' st hle hno hJ
    have key : ∀ e b, mtc B t n a s0.1 k0 (s0.1 (10 * a + K)) e b → (bfr ent (a + 1) e b ↔ bfr ent' (a + 1) e b) := by
      intro e b h2
      have h3 := via_in h2
      constructor
      · intro h
        unfold bfr at h ⊢
        omega
      · intro h
        by_cases h4 : e < ent
        · exact Or.inl h4
        · by_cases h5 : e < ent'
          · exact absurd h3.2.2.1 (hno e (by omega) h5)
          · unfold bfr at h
            omega
    refine ⟨hJ.1, ?_⟩
    rcases hJ.2 with ⟨a1, a2, a3, a4, a5, a6⟩ | ⟨a1, e, b, a2, a3, a4⟩
    · exact Or.inl ⟨a1, a2, a3, a4, a5, fun e b hb hm => a6 e b ((key e b hm).mpr hb) hm⟩
    · exact Or.inr ⟨a1, e, b, (key e b a3).mp a2, a3, a4⟩
  · refine ⟨rfl, Or.inl ⟨hf0, rfl, rfl, rfl, rfl, fun e b hb hm => ?_⟩⟩
    have h3 := via_in hm
    unfold bfr at hb
    omega
  · rintro u ⟨j1, j2⟩
    refine ⟨j1, ?_⟩
    rcases j2 with ⟨a1, a2, a3, a4, a5, a6⟩ | ⟨a1, e, b, a2, a3, a4, a5, a6, a7, a8⟩
    · obtain ⟨e, b, h5⟩ := (hR.2.2 a (Nat.zero_le _) ha K hK).mem (by omega)
      have h6 := via_in h5
      rw [← ek0] at h5
      exact absurd h5 (a6 e b (Or.inl (by omega)))
    · rw [ek0] at a3 a4
      exact ⟨e, b, ⟨a3, a4⟩, a5, a6, a7, a8⟩
end
section
/-! the reference: the costs ahead -/
def fwd (B : Nat → Nat → Int) (ah : Nat → Int) (a : Nat) (k x : Int) : Prop := ∃ k' : Nat, k' ≤ 9 ∧ ah (10 * a + k') < 134217728 ∧ x = ah (10 * a + k') + stp B k' k
def AB (n : Nat) (ah : Nat → Int) : Prop := (∀ (b : Nat) (k : Nat), b ≤ n → k ≤ 9 → ah (10 * b + k) < 134217728 → -(4000 * (b : Int)) ≤ ah (10 * b + k) ∧ ah (10 * b + k) ≤ 4000 * (b : Int)) ∧ ∀ i, inI (ah i)
set_option maxHeartbeats 1000000 in
theorem q_leastAhead {B : Nat → Nat → Int} (hB : GB B) (hS : GS B) {n a : Nat} (hn : n ≤ 36) (ha : a ≤ n) {ah : Nat → Int} (hA : AB n ah) {x1 k : Int} (e1 : x1 = a) (hk : 0 ≤ k ∧ k ≤ 8) : wp (m_X9_leastAhead x1 k (B 14) (B 15) ah) (fun v => Lst (fwd B ah a k) 134217728 v ∧ (v < 134217728 → -(4000 * (a : Int)) - 62 ≤ v ∧ v ≤ 4000 * (a : Int) + 90)) := by
  unfold m_X9_leastAhead
  refine wp_bind (P := fun u : Nat × Int × Int => Lst (fwd B ah a k) 134217728 u.2.1 ∧ (u.2.1 < 134217728 → -(4000 * (a : Int)) - 62 ≤ u.2.1 ∧ u.2.1 ≤ 4000 * (a : Int) + 90)) (wp_loop (fun j y => y.2 = (j : Int) ∧ Lst (fun x => ∃ k' : Nat, k' < j ∧ ah (10 * a + k') < 134217728 ∧ x = ah (10 * a + k') + stp B k' k) 134217728 y.1 ∧ (y.1 < 134217728 → -(4000 * (a : Int)) - 62 ≤ y.1 ∧ y.1 ≤ 4000 * (a : Int) + 90) ∧ y.1 ≤ 134217728) 10 (by omega) ⟨rfl, Lst.none (fun x ⟨k', h, _⟩ => absurd h (by omega)), fun h => absurd h (by decide), Int.le_refl _⟩ ?_) ?_
  · intro j y hj hs
    obtain ⟨a1, a2, a3, a4⟩ := hs
    unfold m_X9_leastAhead_6
    refine wp_gd (by omega) (wp_if (fun c1 => ?_) (fun c1 => ?_))
    · refine wp_end (by decide) ⟨a2.iff (fun x => ?_), a3⟩
      constructor
      · rintro ⟨k', h1, h2⟩
        exact ⟨k', by omega, h2⟩
      · rintro ⟨k', h1, h2⟩
        exact ⟨k', by omega, h2⟩
    · have et : (10 * x1 + y.2).toNat = 10 * a + j := by omega
      refine wp_eq (show m_X9_at x1 y.2 = some (10 * x1 + y.2) from rfl) ?_
      rw [et]
      refine wp_gd (by omega) (wp_gd (hA.2 _) (wp_if (fun c2 => ?_) (fun c2 => ?_)))
      · refine wp_vl (wp_go ⟨by omega, by show y.2 + 1 = _; omega, a2.iff (fun x => ?_), a3, a4⟩)
        constructor
        · rintro ⟨k', h1, h2, h3⟩
          have : k' ≠ j := fun z => by rw [z] at h2; omega
          exact ⟨k', by omega, h2, h3⟩
        · rintro ⟨k', h1, h2⟩
          exact ⟨k', by omega, h2⟩
      · have hst := stp_bd hS (k := (j : Int)) (j := k) (by omega) hk
        have hab := hA.1 a j ha (by omega) (by omega)
        refine wp_eq (show m_X9_at x1 y.2 = some (10 * x1 + y.2) from rfl) (wp_gd (by omega) (wp_eq (q_stepOf hB (k := y.2) (by omega) hk) ?_))
        rw [et, a1]
        have hyI : inI y.1 := by
          by_cases h : y.1 < 134217728
          · have := a3 h
            omega
          · omega
        refine wp_gd hyI (wp_gd (by omega) (wp_vl (wp_vl (wp_go ⟨by omega, by show (j : Int) + 1 = _; omega, ?_, ?_, ?_⟩))))
        · refine a2.push (by omega) (fun x => ?_)
          constructor
          · rintro ⟨k', h1, h2, h3⟩
            by_cases hkj : k' = j
            · subst hkj
              exact Or.inr h3
            · exact Or.inl ⟨k', by omega, h2, h3⟩
          · rintro (⟨k', h1, h2⟩ | rfl)
            · exact ⟨k', by omega, h2⟩
            · exact ⟨j, by omega, by omega, rfl⟩
        · intro _
          show -(4000 * (a : Int)) - 62 ≤ min y.1 (ah (10 * a + j) + stp B j k) ∧ min y.1 (ah (10 * a + j) + stp B j k) ≤ 4000 * (a : Int) + 90
          by_cases h : y.1 < 134217728
          · have := a3 h
            omega
          · omega
        · show min y.1 (ah (10 * a + j) + stp B j k) ≤ 134217728
          omega
  · rintro ⟨t6, y3, y4⟩ hu
    exact wp_some hu
theorem fwd_eq {B : Nat → Nat → Int} {f g : Nat → Int} {a : Nat} (h : ∀ k, k ≤ 9 → f (10 * a + k) = g (10 * a + k)) {k x : Int} : fwd B f a k x ↔ fwd B g a k x := by
  constructor
  · rintro ⟨k', h1, h2, h3⟩
    rw [h k' h1] at h2 h3
    exact ⟨k', h1, h2, h3⟩
  · rintro ⟨k', h1, h2, h3⟩
    rw [← h k' h1] at h2 h3
    exact ⟨k', h1, h2, h3⟩
/-- the line up to b with a last part of a kind, of what was gone through so far -/
def ASp (B : Nat → Nat → Int) (t : Nat → Int) (n : Nat) (ah : Nat → Int) (a ent cb b k : Nat) (x : Int) : Prop := ∃ (a' e : Nat) (c y : Int), (a' < a ∨ (a' = a ∧ bfr ent cb e b)) ∧ PC B t n a' b e c ∧ kd (B 6) e = k ∧ fwd B ah a' k y ∧ x = y + c
def JA (B : Nat → Nat → Int) (t : Nat → Int) (n a : Nat) (ah0 : Nat → Int) (ent cb : Nat) (ah : Nat → Int) : Prop := (∀ i, i < 10 * (a + 1) → ah i = ah0 i) ∧ AB n ah ∧ (∀ b, 1 ≤ b → b ≤ n → ah (10 * b + 9) = 134217728) ∧ ∀ b k : Nat, 1 ≤ b → b ≤ n → k ≤ 8 → Lst (ASp B t n ah0 a ent cb b k) 134217728 (ah (10 * b + k))
set_option maxHeartbeats 2000000 in
theorem q_goAhead {B : Nat → Nat → Int} {t : Nat → Int} (hB : GB B) (hW : GW B) (hS : GS B) {n fm a b : Nat} (hn : n ≤ 36) (hab : a < b) (hbn : b ≤ n) {fF fT fW fE tb ah0 ah : Nat → Int} (hT : TBL B t n (540 * n) tb) (hF : FX B n fm fF fT fW fE) (hFi : ∀ i, inI (fF i) ∧ inI (fT i) ∧ inI (fW i) ∧ inI (fE i)) {w e : Int} (hw : (0 ≤ w ∧ w < B 18 0) ∨ w = 60) (he : -1 ≤ e ∧ e < 8) (he2 : w ≠ 60 → e < B 18 1) (hwe : w = 60 → e = -1) {x1 x5 gu ba nn mm : Int} (e1 : x1 = a) (e5 : x5 = b) (eg : gu = B 13 1) (eb : ba = B 13 2) (en : nn = n) (em : mm = fm)
    (hJ : JA B t n a ah0 (9 * w + e + 1).toNat b ah) : wp (m_X9_goAhead x1 x5 w e (B 6) (B 7) (B 8) (B 11) (B 12) gu ba (B 14) (B 15) nn mm (B 17) fF fT fW fE tb ah) (fun u => JA B t n a ah0 (9 * w + e + 1).toNat (b + 1) u) := by
  have hW0 := hW.1
  have hE0 := hW.2.1
  obtain ⟨E, eE⟩ : ∃ E : Nat, (9 * w + e + 1) = E := ⟨(9 * w + e + 1).toNat, by omega⟩
  have eE2 : (9 * w + e + 1).toNat = E := by omega
  rw [eE2] at hJ ⊢
  obtain ⟨j1, j2, j3, j4⟩ := hJ
  have hfw : ∀ (k x : Int), fwd B ah a k x ↔ fwd B ah0 a k x := fun k x => fwd_eq (fun k' hk' => j1 _ (by omega))
  have hmono : ∀ e' b', bfr E b e' b' → bfr E (b + 1) e' b' := by
    intro e' b' h
    unfold bfr at h ⊢
    omega
  have hsame : (∀ (c y : Int), PC B t n a b E c → ¬ fwd B ah0 a (kd (B 6) E) y) → JA B t n a ah0 E (b + 1) ah := by
    intro hno
    refine ⟨j1, j2, j3, fun b' k h1 h2 h3 => (j4 b' k h1 h2 h3).iff (fun x => ?_)⟩
    constructor
    · rintro ⟨a', e', c, y, g1, g2, g3, g4, g5⟩
      refine ⟨a', e', c, y, ?_, g2, g3, g4, g5⟩
      rcases g1 with g1 | ⟨g1, g6⟩
      · exact Or.inl g1
      · refine Or.inr ⟨g1, ?_⟩
        by_cases hz : e' = E ∧ b' = b
        · obtain ⟨rfl, rfl⟩ := hz
          subst g1
          rw [← g3] at g4
          exact absurd g4 (hno c y g2)
        · unfold bfr at g6 ⊢
          omega
    · rintro ⟨a', e', c, y, g1, g2⟩
      refine ⟨a', e', c, y, ?_, g2⟩
      rcases g1 with g1 | ⟨g1, g6⟩
      · exact Or.inl g1
      · exact Or.inr ⟨g1, hmono _ _ g6⟩
  unfold m_X9_goAhead
  refine wp_bind (q_rcost hB hW hn hT hab hbn hw ⟨he.1, by by_cases h : w = 60 <;> omega⟩ hwe e1 e5 eg eb) ?_
  intro c hc
  rw [eE] at hc
  by_cases hev : EV B E
  · have hcl := hc.1 hev
    have hkb := kd_bd hW hev
    have hcI : inI c := by
      rcases hcl with ⟨h1, _⟩ | ⟨h1, h2, _⟩
      · omega
      · have := CL_bd hB hW hev h2
        omega
    refine wp_gd hcI (wp_if (fun c1 => ?_) (fun c1 => ?_))
    · refine wp_some (hsame (fun c' y h1 _ => ?_))
      have := (hcl.le h1.2.2.2.1).2
      omega
    · have hmem := hcl.mem (by omega)
      have hcb := CL_bd hB hW hev hmem
      have hk := q_rkind (K := B 6) (w := w) (e := e) (by omega) he hwe
      rw [eE] at hk
      refine wp_bind (q_isAllowed hB hn hab hbn hF hFi (w := w) (e := e) (by omega) he hwe e1 e5 en em) ?_
      intro r hr
      rw [eE] at hr
      refine wp_gd (by omega) (wp_if (fun c3 => ?_) (fun c3 => ?_))
      · refine wp_some (hsame (fun c' y h1 _ => ?_))
        rcases hr with ⟨r1, _⟩ | ⟨_, r2⟩
        · omega
        · exact r2 h1.2.2.1
      · have hal : AL B n a b E := by
          rcases hr with ⟨_, r2⟩ | ⟨r1, _⟩
          · exact r2
          · omega
        have hpc : PC B t n a b E c := ⟨⟨hab, hbn⟩, hev, hal, hmem, fun x hx => (hcl.le hx).1⟩
        refine wp_eq hk (wp_bind (q_leastAhead hB hS hn (a := a) (by omega) j2 e1 hkb) ?_)
        rintro v ⟨hv, hvb⟩
        have hvI : inI v := by
          by_cases h : v < 134217728
          · have := hvb h
            omega
          · rcases hv with ⟨z, _⟩ | ⟨z, _⟩ <;> omega
        refine wp_gd hvI (wp_if (fun c4 => ?_) (fun c4 => ?_))
        · refine wp_some (hsame (fun c' y h1 h2 => ?_))
          have := (hv.le ((hfw _ _).mpr h2)).2
          omega
        · have hvb2 := hvb (by omega)
          obtain ⟨K, eK⟩ : ∃ K : Nat, kd (B 6) E = K := ⟨(kd (B 6) E).toNat, by omega⟩
          rw [eK] at hk hv hkb
          have et : (10 * x5 + (K : Int)).toNat = 10 * b + K := by omega
          refine wp_eq hk (wp_eq (show m_X9_at x5 K = some (10 * x5 + K) from rfl) (wp_eq hk (wp_eq (show m_X9_at x5 K = some (10 * x5 + K) from rfl) ?_)))
          rw [et]
          have hah := j2.2 (10 * b + K)
          refine wp_gd (by omega) (wp_gd hah (wp_gd (by omega) (wp_gd (by omega) (wp_vl (wp_some ⟨fun i hi => ?_, ⟨fun b' k' h1 h2 h3 => ?_, uz_inI j2.2 (by omega)⟩, fun b' h1 h2 => ?_, fun b' k' h1 h2 h3 => ?_⟩)))))
          · show uz ah (10 * b + K) _ i = _
            rw [uz_ne _ _ (by omega)]
            exact j1 i hi
          · show -(4000 * (b' : Int)) ≤ uz ah (10 * b + K) (min (ah (10 * b + K)) (v + c)) (10 * b' + k') ∧ uz ah (10 * b + K) (min (ah (10 * b + K)) (v + c)) (10 * b' + k') ≤ 4000 * (b' : Int)
            have h3 : uz ah (10 * b + K) (min (ah (10 * b + K)) (v + c)) (10 * b' + k') < 134217728 := h3
            by_cases hz : 10 * b' + k' = 10 * b + K
            · rw [hz, uz_at] at h3 ⊢
              have hbb : b' = b := by omega
              subst hbb
              by_cases h9 : ah (10 * b' + K) < 134217728
              · have := j2.1 b' K h1 (by omega) h9
                omega
              · omega
            · rw [uz_ne _ _ hz] at h3 ⊢
              exact j2.1 b' k' h1 h2 h3
          · show uz ah (10 * b + K) _ (10 * b' + 9) = 134217728
            rw [uz_ne _ _ (by omega)]
            exact j3 b' h1 h2
          · show Lst _ 134217728 (uz ah (10 * b + K) (min (ah (10 * b + K)) (v + c)) (10 * b' + k'))
            by_cases hz : b' = b ∧ k' = K
            · obtain ⟨rfl, rfl⟩ := hz
              rw [uz_at]
              refine Lst.dom ((j4 b' k' h1 h2 h3).push (S' := fun x => ASp B t n ah0 a E b' b' k' x ∨ x = v + c) (by omega) (fun x => Iff.rfl)) ?_ ?_
              · rintro x (⟨a', e', c', y, g1, g2⟩ | rfl)
                · refine ⟨a', e', c', y, ?_, g2⟩
                  rcases g1 with g1 | ⟨g1, g6⟩
                  · exact Or.inl g1
                  · exact Or.inr ⟨g1, hmono _ _ g6⟩
                · exact ⟨a, E, c, v, Or.inr ⟨rfl, Or.inr ⟨rfl, by omega⟩⟩, hpc, eK, (hfw _ _).mp (hv.mem (by omega)), rfl⟩
              · rintro x ⟨a', e', c', y, g1, g2, g3, g4, g5⟩
                by_cases hz : a' = a ∧ e' = E
                · obtain ⟨rfl, rfl⟩ := hz
                  have h5 := PC_one g2 hpc
                  have h6 := (hv.le ((hfw _ _).mpr g4)).1
                  exact ⟨v + c, Or.inr rfl, by omega⟩
                · refine ⟨x, Or.inl ⟨a', e', c', y, ?_, g2, g3, g4, g5⟩, Int.le_refl _⟩
                  rcases g1 with g1 | ⟨g1, g6⟩
                  · exact Or.inl g1
                  · refine Or.inr ⟨g1, ?_⟩
                    unfold bfr at g6 ⊢
                    omega
            · rw [uz_ne _ _ (by omega)]
              refine (j4 b' k' h1 h2 h3).iff (fun x => ?_)
              constructor
              · rintro ⟨a', e', c', y, g1, g2, g3, g4, g5⟩
                refine ⟨a', e', c', y, ?_, g2, g3, g4, g5⟩
                rcases g1 with g1 | ⟨g1, g6⟩
                · exact Or.inl g1
                · refine Or.inr ⟨g1, ?_⟩
                  by_cases hy : e' = E ∧ b' = b
                  · obtain ⟨rfl, rfl⟩ := hy
                    exact absurd ⟨rfl, by omega⟩ hz
                  · unfold bfr at g6 ⊢
                    omega
              · rintro ⟨a', e', c', y, g1, g2⟩
                refine ⟨a', e', c', y, ?_, g2⟩
                rcases g1 with g1 | ⟨g1, g6⟩
                · exact Or.inl g1
                · exact Or.inr ⟨g1, hmono _ _ g6⟩
  · have hcN := hc.2 hev
    refine wp_gd (by omega) (wp_if (fun c1 => ?_) (fun c1 => absurd (by omega) c1))
    exact wp_some (hsame (fun c' y h1 _ => hev h1.2.1))
end
section
/-! the reference: readAhead, whole -/
/-- the costs ahead stand -/
def AHD (B : Nat → Nat → Int) (t : Nat → Int) (n : Nat) (ah : Nat → Int) : Prop := AB n ah ∧ ah 9 = 0 ∧ (∀ k, k ≤ 8 → ah k = 134217728) ∧ (∀ b, 1 ≤ b → b ≤ n → ah (10 * b + 9) = 134217728) ∧ ∀ b k : Nat, 1 ≤ b → b ≤ n → k ≤ 8 → Lst (fun x => ∃ (a e : Nat) (c y : Int), PC B t n a b e c ∧ kd (B 6) e = k ∧ fwd B ah a k y ∧ x = y + c) 134217728 (ah (10 * b + k))
set_option maxHeartbeats 4000000 in
theorem q_aheadFrom {B : Nat → Nat → Int} {t : Nat → Int} (hB : GB B) (hW : GW B) (hS : GS B) {n fm a : Nat} (hn : n ≤ 36) (ha : a < n) {fF fT fW fE tb ah0 : Nat → Int} (hT : TBL B t n (540 * n) tb) (hF : FX B n fm fF fT fW fE) (hFi : ∀ i, inI (fF i) ∧ inI (fT i) ∧ inI (fW i) ∧ inI (fE i)) {x1 gu ba nn mm : Int} (e1 : x1 = a) (eg : gu = B 13 1) (eb : ba = B 13 2) (en : nn = n) (em : mm = fm) (h0 : JA B t n a ah0 0 (a + 1) ah0) :
    wp (zloop (fun y => m_X9_readAhead_68 x1 y.1 (B 6) (B 7) (B 8) (B 11) (B 12) (B 18 0) (B 18 1) gu ba (B 14) (B 15) nn mm (B 17) fF fT fW fE tb y.2) FU (0, ah0)) (fun u => JA B t n a ah0 541 (a + 1) u.2.2) := by
  have hW0 := hW.1
  have hE0 := hW.2.1
  have hnext : ∀ (ent : Nat) (ah : Nat → Int), JA B t n a ah0 ent (n + 1) ah → JA B t n a ah0 (ent + 1) (a + 1) ah := by
    rintro ent ah ⟨j1, j2, j3, j4⟩
    refine ⟨j1, j2, j3, fun b k h1 h2 h3 => (j4 b k h1 h2 h3).iff (fun x => ?_)⟩
    constructor
    · rintro ⟨a', e, c, y, g1, g2, g3⟩
      have g4 := g2.1
      refine ⟨a', e, c, y, ?_, g2, g3⟩
      unfold bfr at g1 ⊢
      omega
    · rintro ⟨a', e, c, y, g1, g2, g3⟩
      have g4 := g2.1
      refine ⟨a', e, c, y, ?_, g2, g3⟩
      unfold bfr at g1 ⊢
      omega
  have hskip : ∀ (ent ent' : Nat) (ah : Nat → Int), ent ≤ ent' → (∀ z : Nat, ent ≤ z → z < ent' → ¬ EV B z) → JA B t n a ah0 ent (a + 1) ah → JA B t n a ah0 ent' (a + 1) ah := by
    rintro ent ent' ah hle hno ⟨j1, j2, j3, j4⟩
    refine ⟨j1, j2, j3, fun b k h1 h2 h3 => (j4 b k h1 h2 h3).iff (fun x => ?_)⟩
    constructor
    · rintro ⟨a', e, c, y, g1, g2, g3⟩
      have g4 := g2.1
      refine ⟨a', e, c, y, ?_, g2, g3⟩
      rcases g1 with g1 | ⟨g1, g5⟩
      · exact Or.inl g1
      · refine Or.inr ⟨g1, ?_⟩
        by_cases h4 : e < ent
        · exact Or.inl h4
        · by_cases h5 : e < ent'
          · exact absurd g2.2.1 (hno e (by omega) h5)
          · unfold bfr at g5 ⊢
            omega
    · rintro ⟨a', e, c, y, g1, g2, g3⟩
      have g4 := g2.1
      refine ⟨a', e, c, y, ?_, g2, g3⟩
      unfold bfr at g1 ⊢
      omega
  have h91 : ∀ (w : Nat) (x3 : Int) (s : Nat → Int), (((w : Int) < B 18 0) ∨ w = 60) → x3 = w → JA B t n a ah0 (9 * w) (a + 1) s → wp (m_X9_readAhead_91 x1 x3 (B 6) (B 7) (B 8) (B 11) (B 12) (B 18 0) (B 18 1) gu ba (B 14) (B 15) nn mm (B 17) fF fT fW fE tb s) (fun u => u.1 = 0 ∧ u.2.1 = ((w + 1 : Nat) : Int) ∧ JA B t n a ah0 (if w + 1 = 61 then 541 else 9 * (w + 1)) (a + 1) u.2.2) := by
    intro w x3 s hw e3 hs
    obtain ⟨Ne, eNe⟩ : ∃ Ne : Nat, (w = 60 ∧ Ne = 1) ∨ (w ≠ 60 ∧ (Ne : Int) = B 18 1 + 1) := by
      by_cases h : w = 60
      · exact ⟨1, Or.inl ⟨h, rfl⟩⟩
      · exact ⟨(B 18 1 + 1).toNat, Or.inr ⟨h, by omega⟩⟩
    unfold m_X9_readAhead_91
    refine wp_bind (P := fun u : Nat × Int × (Nat → Int) => JA B t n a ah0 (if w + 1 = 61 then 541 else 9 * (w + 1)) (a + 1) u.2.2) (wp_loop (fun j y => y.1 = -1 + (j : Int) ∧ JA B t n a ah0 (9 * w + j) (a + 1) y.2) Ne (by omega) ⟨rfl, hs⟩ ?_) ?_
    · intro j y hj hst
      obtain ⟨a1, a2⟩ := hst
      have h108 : ∀ t1 : Int, ((w = 60 ∧ t1 = 0) ∨ (w ≠ 60 ∧ t1 = B 18 1)) → wp (m_X9_readAhead_108 x1 x3 y.1 y.1 t1 (B 6) (B 7) (B 8) (B 11) (B 12) (B 18 0) (B 18 1) gu ba (B 14) (B 15) nn mm (B 17) fF fT fW fE tb y.2) (fun u : Nat × Int × (Nat → Int) => (u.1 = 0 → j < Ne ∧ u.2.1 = -1 + ((j + 1 : Nat) : Int) ∧ JA B t n a ah0 (9 * w + (j + 1)) (a + 1) u.2.2) ∧ (u.1 ≠ 0 → JA B t n a ah0 (if w + 1 = 61 then 541 else 9 * (w + 1)) (a + 1) u.2.2)) := by
        intro t1 ht1
        unfold m_X9_readAhead_108
        refine wp_gd (by omega) (wp_gd (by omega) (wp_if (fun c1 => ?_) (fun c1 => ?_)))
        · refine wp_some ⟨fun z => absurd z Nat.one_ne_zero, fun _ => ?_⟩
          show JA B t n a ah0 _ (a + 1) y.2
          by_cases h60 : w = 60
          · rw [if_pos (by omega)]
            have : 9 * w + j = 541 := by omega
            rw [this] at a2
            exact a2
          · rw [if_neg (by omega)]
            refine hskip _ _ _ (by omega) (fun z z1 z2 hz => ?_) a2
            rcases hz with hz | ⟨_, _, _, hz⟩
            · omega
            · omega
        · refine wp_vl (wp_bind (P := fun u : Nat × Int × (Nat → Int) => JA B t n a ah0 (9 * w + j) (n + 1) u.2.2) (wp_loop (fun i d => d.1 = ((a + 1 + i : Nat) : Int) ∧ JA B t n a ah0 (9 * w + j) (a + 1 + i) d.2) (n - a) (by omega) ⟨by show x1 + 1 = _; omega, a2⟩ ?_) ?_)
          · intro i d hi hsd
            obtain ⟨d1, d2⟩ := hsd
            unfold m_X9_readAhead_116
            refine wp_gd (by omega) (wp_gd (by omega) (wp_if (fun c2 => ?_) (fun c2 => ?_)))
            · refine wp_end (by decide) ?_
              show JA B t n a ah0 (9 * w + j) (n + 1) d.2
              rw [show n + 1 = a + 1 + i by omega]
              exact d2
            · have ej : (9 * x3 + y.1 + 1).toNat = 9 * w + j := by omega
              have h9 := q_goAhead hB hW hS hn (a := a) (b := a + 1 + i) (by omega) (by omega) hT hF hFi (w := x3) (e := y.1) (ah0 := ah0) (ah := d.2) (by omega) (by omega) (by omega) (by omega) e1 d1 eg eb en em (by rw [ej]; exact d2)
              rw [ej] at h9
              refine wp_bind h9 ?_
              intro u hu
              exact wp_vl (wp_go ⟨by omega, by show d.1 + 1 = _; omega, hu⟩)
          · rintro ⟨t52, y5, r1⟩ hu
            have hu := hnext _ _ hu
            exact wp_vl (wp_some ⟨fun _ => ⟨by omega, by show y.1 + 1 = _; omega, hu⟩, fun z => absurd rfl z⟩)
      unfold m_X9_readAhead_93
      refine wp_gd (by omega) (wp_if (fun c1 => ?_) (fun c1 => ?_))
      · exact h108 0 (Or.inl ⟨by omega, rfl⟩)
      · exact h108 (B 18 1) (Or.inr ⟨by omega, rfl⟩)
    · rintro ⟨t28, y4, r1⟩ hu
      exact wp_vl (wp_some ⟨rfl, by show x3 + 1 = _; omega, hu⟩)
  refine wp_loop (fun k y => y.1 = (k : Int) ∧ JA B t n a ah0 (if k = 61 then 541 else 9 * k) (a + 1) y.2) 61 (by omega) ⟨rfl, h0⟩ ?_
  intro k y hk hs
  obtain ⟨a1, a2⟩ := hs
  unfold m_X9_readAhead_68
  refine wp_gd (by omega) (wp_if (fun c1 => ?_) (fun c1 => ?_))
  · refine wp_end (by decide) ?_
    rw [if_pos (by omega)] at a2
    exact a2
  · rw [if_neg (by omega)] at a2
    refine wp_gd (by omega) (wp_if (fun c2 => ?_) (fun c2 => ?_))
    · refine wp_mono (h91 k y.1 y.2 (Or.inl (by omega)) a1 a2) ?_
      rintro u ⟨u1, u2, u3⟩
      exact ⟨fun _ => ⟨by omega, u2, u3⟩, fun z => absurd u1 z⟩
    · refine wp_if (fun c3 => ?_) (fun c3 => ?_)
      · refine wp_mono (h91 k y.1 y.2 (Or.inr (by omega)) a1 a2) ?_
        rintro u ⟨u1, u2, u3⟩
        exact ⟨fun _ => ⟨by omega, u2, u3⟩, fun z => absurd u1 z⟩
      · refine wp_vl (wp_go ⟨by omega, by show y.1 + 1 = _; omega, ?_⟩)
        rw [if_neg (by omega)]
        refine hskip _ _ _ (by omega) (fun z z1 z2 hz => ?_) a2
        rcases hz with hz | ⟨_, _, hz, _⟩
        · omega
        · omega
set_option maxHeartbeats 2000000 in
theorem q_readAhead {B : Nat → Nat → Int} {t : Nat → Int} (hB : GB B) (hW : GW B) (hS : GS B) {n fm : Nat} (hn : n ≤ 36) {fF fT fW fE tb ah : Nat → Int} (hT : TBL B t n (540 * n) tb) (hF : FX B n fm fF fT fW fE) (hFi : ∀ i, inI (fF i) ∧ inI (fT i) ∧ inI (fW i) ∧ inI (fE i)) (hA : ∀ i, inI (ah i)) {gu ba nn mm : Int} (eg : gu = B 13 1) (eb : ba = B 13 2) (en : nn = n) (em : mm = fm) :
    wp (m_X9_readAhead (B 6) (B 7) (B 8) (B 11) (B 12) (B 18 0) (B 18 1) gu ba (B 14) (B 15) nn mm (B 17) fF fT fW fE tb ah) (fun u => AHD B t n u) := by
  unfold m_X9_readAhead
  refine wp_bind (P := fun u : Nat × Int × (Nat → Int) => (∀ i, i < 10 * (n + 1) → u.2.2 i = if i = 9 then 0 else 134217728) ∧ ∀ i, inI (u.2.2 i)) (wp_loop (fun a y => y.1 = (a : Int) ∧ (∀ i, i < 10 * a → y.2 i = if i = 9 then 0 else 134217728) ∧ ∀ i, inI (y.2 i)) (n + 1) (by omega) ⟨rfl, fun i h => absurd h (by omega), hA⟩ ?_) ?_
  · intro a y ha hs
    obtain ⟨a1, a2, a3⟩ := hs
    unfold m_X9_readAhead_2
    refine wp_gd (by omega) (wp_gd (by omega) (wp_if (fun c1 => ?_) (fun c1 => ?_)))
    · refine wp_end (by decide) ⟨?_, a3⟩
      rw [show n + 1 = a by omega]
      exact a2
    · refine wp_bind (P := fun u : Nat × Int × (Nat → Int) => (∀ i, i < 10 * (a + 1) → u.2.2 i = if i = 9 then 0 else 134217728) ∧ ∀ i, inI (u.2.2 i)) (wp_loop (fun k d => d.1 = (k : Int) ∧ (∀ i, i < 10 * a + k → d.2 i = if i = 9 then 0 else 134217728) ∧ ∀ i, inI (d.2 i)) 10 (by omega) ⟨rfl, fun i h => a2 i (by omega), a3⟩ ?_) ?_
      · intro k d hk hsd
        obtain ⟨d1, d2, d3⟩ := hsd
        unfold m_X9_readAhead_12
        refine wp_gd (by omega) (wp_if (fun c2 => ?_) (fun c2 => ?_))
        · exact wp_end (by decide) ⟨fun i hi => d2 i (by omega), d3⟩
        · have et : (10 * y.1 + d.1).toNat = 10 * a + k := by omega
          have hset : ∀ v : Int, (v = if 10 * a + k = 9 then 0 else 134217728) → ∀ i, i < 10 * a + (k + 1) → uz d.2 (10 * a + k) v i = if i = 9 then 0 else 134217728 := by
            intro v hv i hi
            by_cases hii : i = 10 * a + k
            · rw [hii, uz_at, hv]
            · rw [uz_ne _ _ hii]
              exact d2 i (by omega)
          refine wp_eq (show m_X9_at y.1 d.1 = some (10 * y.1 + d.1) from rfl) ?_
          rw [et]
          refine wp_gd (by omega) (wp_if (fun c3 => ?_) (fun c3 => ?_))
          · refine wp_if (fun c4 => ?_) (fun c4 => ?_)
            · exact wp_gd (by omega) (wp_vl (wp_vl (wp_go ⟨by omega, by show d.1 + 1 = _; omega, hset _ (by rw [if_pos (by omega)]), uz_inI d3 (by decide)⟩)))
            · exact wp_gd (by omega) (wp_vl (wp_vl (wp_go ⟨by omega, by show d.1 + 1 = _; omega, hset _ (by rw [if_neg (by omega)]), uz_inI d3 (by decide)⟩)))
          · exact wp_gd (by omega) (wp_vl (wp_vl (wp_go ⟨by omega, by show d.1 + 1 = _; omega, hset _ (by rw [if_neg (by omega)]), uz_inI d3 (by decide)⟩)))
      · rintro ⟨t12, y2, ah2⟩ hu
        exact wp_vl (wp_go ⟨by omega, by show y.1 + 1 = _; omega, hu.1, hu.2⟩)
  · rintro ⟨t2, y1, ah1⟩ ⟨g1, g2⟩
    have g1 : ∀ i, i < 10 * (n + 1) → ah1 i = if i = 9 then 0 else 134217728 := g1
    have g2 : ∀ i, inI (ah1 i) := g2
    have gN : ∀ i, i < 10 * (n + 1) → i ≠ 9 → ah1 i = 134217728 := fun i h1 h2 => by rw [g1 i h1, if_neg h2]
    have g9 : ah1 9 = 0 := by rw [g1 9 (by omega), if_pos rfl]
    refine wp_bind (P := fun u : Nat × Int × (Nat → Int) => AHD B t n u.2.2) (wp_loop (fun a y => y.1 = (a : Int) ∧ (∀ i, i < 10 → y.2 i = ah1 i) ∧ JA B t n a y.2 0 (a + 1) y.2) n (by omega) ⟨rfl, fun i _ => rfl, ⟨fun i _ => rfl, ⟨fun b k h1 h2 h3 => ?_, g2⟩, fun b h1 h2 => gN _ (by omega) (by omega), fun b k h1 h2 h3 => ?_⟩⟩ ?_) ?_
    · by_cases hz : 10 * b + k = 9
      · show -(4000 * (b : Int)) ≤ ah1 (10 * b + k) ∧ ah1 (10 * b + k) ≤ 4000 * (b : Int)
        rw [hz, g9]
        omega
      · have := gN (10 * b + k) (by omega) hz
        have h3 : ah1 (10 * b + k) < 134217728 := h3
        omega
    · show Lst _ 134217728 (ah1 (10 * b + k))
      rw [gN _ (by omega) (by omega)]
      refine Lst.none ?_
      rintro x ⟨a', e, c, y, h4, h5, _⟩
      have := h5.1
      unfold bfr at h4
      omega
    · intro a y ha hs
      obtain ⟨a1, a2, a3⟩ := hs
      unfold m_X9_readAhead_58
      refine wp_gd (by omega) (wp_gd (by omega) (wp_if (fun c1 => ?_) (fun c1 => ?_)))
      · have han : a = n := by omega
        subst han
        obtain ⟨j1, j2, j3, j4⟩ := a3
        refine wp_end (by decide) ⟨j2, ?_, fun k hk => ?_, j3, fun b k h1 h2 h3 => (j4 b k h1 h2 h3).iff (fun x => ?_)⟩
        · show y.2 9 = 0
          rw [a2 9 (by omega)]
          exact g9
        · show y.2 k = 134217728
          rw [a2 k (by omega)]
          exact gN k (by omega) (by omega)
        · constructor
          · rintro ⟨a', e, c, z, g3, g4⟩
            have := g3.1
            exact ⟨a', e, c, z, Or.inl (by omega), g3, g4⟩
          · rintro ⟨a', e, c, z, _, g3⟩
            exact ⟨a', e, c, z, g3⟩
      · refine wp_bind (q_aheadFrom hB hW hS hn (a := a) (by omega) hT hF hFi a1 eg eb en em a3) ?_
        rintro ⟨t68, y2, ah2⟩ ⟨j1, j2, j3, j4⟩
        have j1 : ∀ i, i < 10 * (a + 1) → ah2 i = y.2 i := j1
        refine wp_vl (wp_go ⟨by omega, by show y.1 + 1 = _; omega, fun i hi => (j1 i (by omega)).trans (a2 i hi), fun i _ => rfl, j2, j3, fun b k h1 h2 h3 => (j4 b k h1 h2 h3).iff (fun x => ?_)⟩)
        constructor
        · rintro ⟨a', e, c, z, g3, g4, g5, g6, g7⟩
          have g8 := g4.1
          have he : e ≤ 540 := by rcases g4.2.1 with z | z <;> omega
          have hle : a' ≤ a := by
            unfold bfr at g3
            omega
          refine ⟨a', e, c, z, ?_, g4, g5, (fwd_eq (fun k' hk' => j1 _ (by omega))).mp g6, g7⟩
          by_cases haa : a' < a
          · exact Or.inl haa
          · exact Or.inr ⟨by omega, Or.inl (by omega)⟩
        · rintro ⟨a', e, c, z, g3, g4, g5, g6, g7⟩
          have g8 := g4.1
          have hle : a' ≤ a := by omega
          exact ⟨a', e, c, z, Or.inl (by omega), g4, g5, (fwd_eq (fun k' hk' => j1 _ (by omega))).mpr g6, g7⟩
    · rintro ⟨t58, y1', ah2⟩ hu
      exact wp_some hu
end
section
/-! the endings' seeds; a word with each of its endings at once -/
theorem Lst.union {S1 S2 S : Int → Prop} {far v1 v2 : Int} (h1 : Lst S1 far v1) (h2 : Lst S2 far v2) (hS : ∀ x, S x ↔ S1 x ∨ S2 x) : Lst S far (min v1 v2) := by
  rcases h1 with ⟨a1, a2⟩ | ⟨a1, a2, a3⟩
  · rcases h2 with ⟨b1, b2⟩ | ⟨b1, b2, b3⟩
    · refine Or.inl ⟨by omega, fun x hx => ?_⟩
      rcases (hS x).mp hx with z | z
      · exact a2 x z
      · exact b2 x z
    · rw [show min v1 v2 = v2 by omega]
      refine Or.inr ⟨b1, (hS _).mpr (Or.inr b2), fun x hx => ?_⟩
      rcases (hS x).mp hx with z | z
      · exact absurd z (a2 x)
      · exact b3 x z
  · rcases h2 with ⟨b1, b2⟩ | ⟨b1, b2, b3⟩
    · rw [show min v1 v2 = v1 by omega]
      refine Or.inr ⟨a1, (hS _).mpr (Or.inl a2), fun x hx => ?_⟩
      rcases (hS x).mp hx with z | z
      · exact a3 x z
      · exact absurd z (b2 x)
    · refine Or.inr ⟨by omega, ?_, fun x hx => ?_⟩
      · by_cases h : v1 ≤ v2
        · rw [show min v1 v2 = v1 by omega]
          exact (hS _).mpr (Or.inl a2)
        · rw [show min v1 v2 = v2 by omega]
          exact (hS _).mpr (Or.inr b2)
      · rcases (hS x).mp hx with z | z
        · have := a3 x z
          omega
        · have := b3 x z
          omega
theorem spR_app {B : Nat → Nat → Int} {t : Nat → Int} (s2 : List Nat) : ∀ (s1 : List Nat) (a b : Nat) (x : Int), spR B t (s1 ++ s2) a b x ↔ ∃ (m : Nat) (y1 y2 : Int), spR B t s1 a m y1 ∧ spR B t s2 m b y2 ∧ x = y1 + y2 := by
  intro s1
  induction s1 with
  | nil =>
    intro a b x
    constructor
    · intro h
      exact ⟨a, 0, x, ⟨rfl, rfl⟩, h, by omega⟩
    · rintro ⟨m, y1, y2, ⟨h1, h2⟩, h3, h4⟩
      subst h1
      have : x = y2 := by omega
      subst this
      exact h3
  | cons s s1 ih =>
    intro a b x
    constructor
    · rintro ⟨j, y, h1, h2, h3, h4⟩
      obtain ⟨m, y1, y2, g1, g2, g3⟩ := (ih _ _ _).mp h3
      exact ⟨m, prc B t (3 * s + j) a + y1, y2, ⟨j, y1, h1, h2, g1, rfl⟩, g2, by omega⟩
    · rintro ⟨m, y1, y2, ⟨j, y, h1, h2, h3, h4⟩, g2, g3⟩
      exact ⟨j, y + y2, h1, h2, (ih _ _ _).mpr ⟨m, y, y2, h3, g2, rfl⟩, by omega⟩
theorem spR_lt {B : Nat → Nat → Int} {t : Nat → Int} (hB : GB B) {ss : List Nat} (hs : ∀ s ∈ ss, s < 50) (hne : 0 < ss.length) {a b : Nat} {x : Int} (h : spR B t ss a b x) : a < b := by
  cases ss with
  | nil => exact absurd hne (by decide)
  | cons s ss =>
    obtain ⟨j, y, h1, h2, h3, h4⟩ := h
    obtain ⟨n, hn1, hn2⟩ := hB.2.2.2.1 s j (hs s List.mem_cons_self) h1
    have := hn1.1
    have := (spR_bd hB ss (fun s' h => hs s' (List.mem_cons_of_mem _ h)) _ _ _ h3).2.2
    omega
abbrev eSd (B : Nat → Nat → Int) (e : Nat) : List Nat := pfx (B 9 e) (siz 6 (B 9 e))
abbrev ZE (B : Nat → Nat → Int) (b e : Nat) : Nat → Int → Prop := fun q z => q = b ∧ z = B 12 e * 16 + e + 1
/-- where a stem may end, so that one of the first k endings of a class fills the rest -/
def SD (B : Nat → Nat → Int) (t : Nat → Int) (b k : Nat) (c : Int) (p : Nat) (x : Int) : Prop := ∃ e : Nat, e < k ∧ B 11 e = c ∧ wkS B t (ZE B b e) (eSd B e) p x
theorem SD_in {B : Nat → Nat → Int} {t : Nat → Int} (hB : GB B) (hW : GW B) {b k : Nat} (hb : b ≤ 36) (hk : (k : Int) ≤ B 18 1) {c : Int} {p : Nat} {x : Int} (h : SD B t b k c p x) : p < b ∧ 0 ≤ x ∧ x < 20000 := by
  obtain ⟨e, h1, h2, q, y, z, h3, ⟨h4, h5⟩, h6⟩ := h
  obtain ⟨⟨n, hv⟩, _, _, hpr⟩ := hW.2.2.2.1 e (by omega)
  have hE := hW.2.1
  have hsv := siz_of (by decide) hv
  have hl := pfx_lt hv n (Nat.le_refl n)
  have hn1 := hv.1
  have hn2 := hv.2.1
  unfold eSd at h3
  rw [hsv] at h3
  have g1 := spR_lt hB hl (by rw [pfx_len]; omega) h3
  have g2 := spR_bd hB _ hl _ _ _ h3
  rw [pfx_len] at g2
  omega
/-- the seeds of the first k endings stand -/
def SK (B : Nat → Nat → Int) (t : Nat → Int) (b k : Nat) (seeds lows : Nat → Int) : Prop := (∀ c p : Nat, c < 6 → p ≤ 36 → Lst (SD B t b k c p) 268435456 (seeds (37 * c + p))) ∧ (∀ c : Nat, c < 6 → (0 ≤ lows c ∧ lows c ≤ b) ∧ ∀ p x, SD B t b k c p x → lows c ≤ (p : Int)) ∧ (∀ i, inI (seeds i)) ∧ ∀ i, inI (lows i)
set_option maxHeartbeats 2000000 in
theorem q_seedEndings {B : Nat → Nat → Int} {t : Nat → Int} (hB : GB B) (hW : GW B) (ht : ∀ k, inI (t k)) {b : Nat} (hb : b ≤ 36) {now next seeds lows : Nat → Int} {low high : Int} (nA xA : Nat) (hok : spOk now next low high) (hSd : ∀ i, inI (seeds i)) (hLo : ∀ i, inI (lows i)) {x1 : Int} (e1 : x1 = b) :
    wp (m_X6_seedEndings x1 (B 0) (B 1) (B 2) (B 3) (B 18 1) (B 9) (B 11) (B 12) (B 13) t now nA next xA low high seeds lows) (fun u => SK B t b (B 18 1).toNat u.2.2.2.2.2.2.1 u.2.2.2.2.2.2.2 ∧ spOk u.1 u.2.2.1 u.2.2.2.2.1 u.2.2.2.2.2.1) := by
  have hE := hW.2.1
  unfold m_X6_seedEndings
  refine wp_eq (q_fill (by decide)) (wp_eq (q_fill (by decide)) ?_)
  refine wp_bind (P := fun u : Nat × Int × (Nat → Int) × Nat × (Nat → Int) × Nat × Int × Int × (Nat → Int) × (Nat → Int) => SK B t b (B 18 1).toNat u.2.2.2.2.2.2.2.2.1 u.2.2.2.2.2.2.2.2.2 ∧ spOk u.2.2.1 u.2.2.2.2.1 u.2.2.2.2.2.2.1 u.2.2.2.2.2.2.2.1) (wp_loop (fun k y => y.1 = (k : Int) ∧ SK B t b k y.2.2.2.2.2.2.2.1 y.2.2.2.2.2.2.2.2 ∧ spOk y.2.1 y.2.2.2.1 y.2.2.2.2.2.1 y.2.2.2.2.2.2.1) (B 18 1).toNat (by omega) ⟨rfl, ?_, hok⟩ ?_) ?_
  · refine ⟨fun c p hc hp => ?_, fun c hc => ⟨?_, fun p x ⟨e, h, _⟩ => absurd h (by omega)⟩, fz_inI hSd (by decide), fz_inI hLo (by omega)⟩
    · show Lst _ 268435456 (fz seeds 0 222 268435456 (37 * c + p))
      rw [fz_in seeds 268435456 (by omega)]
      exact Lst.none (fun x ⟨e, h, _⟩ => absurd h (by omega))
    · show 0 ≤ fz lows 0 6 x1 c ∧ fz lows 0 6 x1 c ≤ b
      rw [fz_in lows x1 (by omega)]
      omega
  · intro k y hk hs
    obtain ⟨a1, a2, a3⟩ := hs
    obtain ⟨o1, o2, o3, o4, o5, o6⟩ := id a3
    obtain ⟨s1, s2, s3, s4⟩ := a2
    have ek : y.1.toNat = k := by omega
    unfold m_X6_seedEndings_19
    refine wp_gd (by omega) (wp_gd (by omega) (wp_if (fun c1 => ?_) (fun c1 => ?_)))
    · refine wp_end (by decide) ⟨?_, a3⟩
      rw [show (B 18 1).toNat = k by omega]
      exact ⟨s1, s2, s3, s4⟩
    · obtain ⟨⟨n, hv⟩, _, hcl, hpr⟩ := hW.2.2.2.1 k (by omega)
      have hsv := siz_of (by decide) hv
      have hn2 := hv.2.1
      rw [ek]
      have hv16 : 0 ≤ B 12 k * 16 + y.1 + 1 ∧ B 12 k * 16 + y.1 + 1 < 1000 := by omega
      refine wp_gd (by omega) ?_
      unfold m_X6_startAt
      have eb : x1.toNat = b := by omega
      rw [eb]
      refine wp_bind (P := fun u : (Nat → Int) × Int × Int => u = (uz y.2.1 b (B 12 k * 16 + y.1 + 1), x1, x1)) (wp_gd (by omega) (wp_vl (wp_some rfl))) ?_
      rintro u rfl
      have hZ : ∀ q z, ZE B b k q z → 0 ≤ z ∧ z < 20000 ∧ q ≤ 36 := fun q z h => by
        obtain ⟨h1, h2⟩ := h
        omega
      have h0 : WO B t (ZE B b k) [] (uz y.2.1 b (B 12 k * 16 + y.1 + 1)) x1 x1 := by
        have := WO_start (B := B) (t := t) (now := y.2.1) (b := b) (v := B 12 k * 16 + y.1 + 1) (by omega)
        rw [a1] at this ⊢
        rw [e1]
        exact this
      refine wp_gd (by omega) (wp_bind (q_walkBack hB ht hZ (fun s hs => absurd hs List.not_mem_nil) (most := 3) (n := n) (Or.inr rfl) rfl hv (hW.2.2.2.2 _).2.2 (by simp; omega) h0 ⟨uz_inI o1 (by omega), o2, by omega, by omega, by omega, by omega⟩ _ _) ?_)
      rintro ⟨n1, n1A, n2, n2A, lo, hi⟩ ⟨w1, w2⟩
      have w1 : WO B t (ZE B b k) (pfx (B 9 k) n ++ []) n1 lo hi := w1
      have w2 : spOk n1 n2 lo hi := w2
      rw [List.append_nil, ← hsv] at w1
      obtain ⟨p1, p2, p3, p4, p5, p6⟩ := id w2
      have hSD : ∀ (c : Int) p x, SD B t b (k + 1) c p x ↔ SD B t b k c p x ∨ (c = B 11 k ∧ wkS B t (ZE B b k) (eSd B k) p x) := by
        intro c p x
        constructor
        · rintro ⟨e, h1, h2, h3⟩
          by_cases hek : e = k
          · subst hek
            exact Or.inr ⟨h2.symm, h3⟩
          · exact Or.inl ⟨e, by omega, h2, h3⟩
        · rintro (⟨e, h1, h2, h3⟩ | ⟨h2, h3⟩)
          · exact ⟨e, by omega, h2, h3⟩
          · exact ⟨k, by omega, h2.symm, h3⟩
      obtain ⟨C, eC⟩ : ∃ C : Nat, B 11 k = C := ⟨(B 11 k).toNat, by omega⟩
      have seedsle : ∀ c p : Nat, c < 6 → p ≤ 36 → y.2.2.2.2.2.2.2.1 (37 * c + p) ≤ 268435456 := by
        intro c p hc hp
        rcases s1 c p hc hp with ⟨z, _⟩ | ⟨z, _⟩ <;> omega
      refine wp_gd (by omega) (wp_vl (wp_bind (P := fun u : Nat × Int × (Nat → Int) => (∀ c p : Nat, c < 6 → p ≤ 36 → u.2.2 (37 * c + p) = if c = C then min (y.2.2.2.2.2.2.2.1 (37 * c + p)) (vw n1 lo hi p) else y.2.2.2.2.2.2.2.1 (37 * c + p)) ∧ ∀ i, inI (u.2.2 i)) (wp_loop (fun j d => d.1 = lo + j ∧ (∀ c p : Nat, c < 6 → p ≤ 36 → d.2 (37 * c + p) = if c = C ∧ (p : Int) < lo + j then min (y.2.2.2.2.2.2.2.1 (37 * c + p)) (vw n1 lo hi p) else y.2.2.2.2.2.2.2.1 (37 * c + p)) ∧ ∀ i, inI (d.2 i)) (hi - lo + 1).toNat (by omega) ⟨by show lo = _; omega, fun c p hc hp => ?_, s3⟩ ?_) ?_))
      · show y.2.2.2.2.2.2.2.1 (37 * c + p) = _
        by_cases h : c = C ∧ (p : Int) < lo + (0 : Nat)
        · rw [if_pos h]
          have hv1 : vw n1 lo hi p = 268435456 := by
            unfold vw
            rw [if_neg (by omega)]
          rw [hv1]
          have := seedsle c p hc hp
          omega
        · rw [if_neg h]
      · intro j d hj hsd
        obtain ⟨d1, d2, d3⟩ := hsd
        unfold m_X6_seedEndings_80
        refine wp_gd (by omega) (wp_gd (by omega) (wp_if (fun c2 => ?_) (fun c2 => ?_)))
        · refine wp_end (by decide) ⟨fun c p hc hp => ?_, d3⟩
          show d.2 (37 * c + p) = _
          rw [d2 c p hc hp]
          by_cases h : c = C
          · rw [if_pos h]
            by_cases h3 : (p : Int) < lo + j
            · rw [if_pos ⟨h, h3⟩]
            · rw [if_neg (fun z => h3 z.2)]
              have hv1 : vw n1 lo hi p = 268435456 := by
                unfold vw
                rw [if_neg (by omega)]
              rw [hv1]
              have := seedsle c p hc hp
              omega
          · rw [if_neg h, if_neg (fun z => h z.1)]
        · obtain ⟨P, eP⟩ : ∃ P : Nat, d.1 = P := ⟨d.1.toNat, by omega⟩
          have e5 : (B 11 k * 37 + d.1).toNat = 37 * C + P := by omega
          have e6 : d.1.toNat = P := by omega
          refine wp_vl ?_
          rw [e5, e6]
          refine wp_gd (by omega) (wp_gd (by omega) (wp_gd (d3 _) (wp_gd (p1 _) (wp_gd (by omega) (wp_vl (wp_vl (wp_go ⟨by omega, by show d.1 + 1 = _; omega, fun c p hc hp => ?_, ?_⟩)))))))
          · show uz d.2 (37 * C + P) _ (37 * c + p) = _
            have hvP : vw n1 lo hi P = n1 P := by
              unfold vw
              rw [if_pos (by omega)]
            by_cases h : c = C ∧ p = P
            · obtain ⟨rfl, rfl⟩ := h
              rw [uz_at, if_pos ⟨rfl, by omega⟩, d2 c p hc hp, if_neg (by omega), hvP]
            · rw [uz_ne _ _ (by omega), d2 c p hc hp]
              by_cases h3 : c = C ∧ (p : Int) < lo + j
              · rw [if_pos h3, if_pos (by omega)]
              · rw [if_neg h3, if_neg (by omega)]
          · have := d3 (37 * C + P)
            have := p1 P
            exact uz_inI d3 (by omega)
      · rintro ⟨t80, y4, sd⟩ ⟨g1, g2⟩
        have g1 : ∀ c p : Nat, c < 6 → p ≤ 36 → sd (37 * c + p) = if c = C then min (y.2.2.2.2.2.2.2.1 (37 * c + p)) (vw n1 lo hi p) else y.2.2.2.2.2.2.2.1 (37 * c + p) := g1
        have g2 : ∀ i, inI (sd i) := g2
        have hS1 : ∀ c p : Nat, c < 6 → p ≤ 36 → Lst (SD B t b (k + 1) c p) 268435456 (sd (37 * c + p)) := by
          intro c p hc hp
          rw [g1 c p hc hp]
          by_cases h : c = C
          · rw [if_pos h]
            refine (s1 c p hc hp).union (w1 p hp) (fun x => ?_)
            rw [hSD]
            constructor
            · rintro (z | ⟨_, z⟩)
              · exact Or.inl z
              · exact Or.inr z
            · rintro (z | z)
              · exact Or.inl z
              · exact Or.inr ⟨by omega, z⟩
          · rw [if_neg h]
            refine (s1 c p hc hp).iff (fun x => ?_)
            rw [hSD]
            constructor
            · rintro (z | ⟨z, _⟩)
              · exact z
              · omega
            · exact Or.inl
        have hwk : ∀ p x, wkS B t (ZE B b k) (eSd B k) p x → lo ≤ (p : Int) ∧ (p : Int) ≤ hi := by
          intro p x hx
          have hp36 := wkS_le hB hZ (by unfold eSd; rw [hsv]; exact pfx_lt hv n (Nat.le_refl n)) hx
          have := ((w1 p hp36).le hx).2
          unfold vw at this
          by_cases h : lo ≤ (p : Int) ∧ (p : Int) ≤ hi
          · exact h
          · rw [if_neg h] at this
            omega
        refine wp_gd (by omega) (wp_gd (by omega) (wp_if (fun c3 => ?_) (fun c3 => ?_)))
        · refine wp_vl (wp_go ⟨by omega, by show y.1 + 1 = _; omega, ⟨hS1, fun c hc => ⟨(s2 c hc).1, fun p x hx => ?_⟩, g2, s4⟩, w2⟩)
          rcases (hSD _ _ _).mp hx with z | ⟨_, z⟩
          · exact (s2 c hc).2 p x z
          · have := hwk p x z
            omega
        · have e7 : (B 11 k).toNat = C := by omega
          rw [e7]
          have hC6 : C < 6 := by omega
          have hlC := s2 C hC6
          refine wp_gd (by omega) (wp_gd (s4 _) (wp_gd (by omega) (wp_vl (wp_vl (wp_go ⟨by omega, by show y.1 + 1 = _; omega, ⟨hS1, fun c hc => ?_, g2, uz_inI s4 (by omega)⟩, w2⟩)))))
          show (0 ≤ uz y.2.2.2.2.2.2.2.2 C _ c ∧ uz y.2.2.2.2.2.2.2.2 C _ c ≤ b) ∧ ∀ p x, SD B t b (k + 1) c p x → uz y.2.2.2.2.2.2.2.2 C _ c ≤ (p : Int)
          by_cases h : c = C
          · subst h
            rw [uz_at]
            refine ⟨by omega, fun p x hx => ?_⟩
            rcases (hSD _ _ _).mp hx with z | ⟨_, z⟩
            · have := hlC.2 p x z
              omega
            · have := hwk p x z
              omega
          · rw [uz_ne _ _ h]
            refine ⟨(s2 c hc).1, fun p x hx => ?_⟩
            rcases (hSD _ _ _).mp hx with z | ⟨z, _⟩
            · exact (s2 c hc).2 p x z
            · omega
  · rintro ⟨t19, y2, n1, n1A, n2, n2A, lo, hi, sd, ls⟩ hu
    exact wp_some hu
end
section
/-! the columns of least values -/
def ZW (B : Nat → Nat → Int) (t : Nat → Int) (b w : Nat) (q : Nat) (z : Int) : Prop := (q = b ∧ z = 0) ∨ (B 7 w ≠ -1 ∧ SD B t b (B 18 1).toNat (B 7 w) q z)
theorem ZW_bd {B : Nat → Nat → Int} {t : Nat → Int} (hB : GB B) (hW : GW B) {b w : Nat} (hb : b ≤ 36) : ∀ q z, ZW B t b w q z → 0 ≤ z ∧ z < 20000 ∧ q ≤ 36 := by
  have hE := hW.2.1
  rintro q z (⟨h1, h2⟩ | ⟨_, h2⟩)
  · omega
  · have := SD_in hB hW hb (by omega) h2
    omega
/-- what a word with or without an ending costs over a stretch, as the walk knows it -/
theorem ZW_CL {B : Nat → Nat → Int} {t : Nat → Int} (hW : GW B) {b w : Nat} (hw : (w : Int) < B 18 0) {p : Nat} {x : Int} : wkS B t (ZW B t b w) (pfx (B 4 w) (siz 6 (B 4 w))) p x ↔ ∃ e : Nat, EV B e ∧ e < 540 ∧ e / 9 = w ∧ ∃ c, CL B t e p b c ∧ x = 16 * (c - wct B w) + ((e % 9 : Nat) : Int) := by
  have hW0 := hW.1
  have hE := hW.2.1
  constructor
  · rintro ⟨q, y, z, h1, h2, h3⟩
    rcases h2 with ⟨rfl, rfl⟩ | ⟨hc, e, h4, h5, q2, y2, z2, h6, ⟨h7, h8⟩, h9⟩
    · refine ⟨9 * w, Or.inr ⟨by omega, by omega, by omega, Or.inl (by omega)⟩, by omega, by omega, wct B w + 0 + y, ?_, by omega⟩
      rw [CL_of (by omega)]
      refine ⟨y, ?_, ?_⟩
      · unfold sds esd
        rw [if_pos (by omega), List.append_nil, show (((9 * w : Nat) : Int) / 9).toNat = w by omega]
        exact h1
      · unfold epr
        rw [if_pos (by omega), show (((9 * w : Nat) : Int) / 9).toNat = w by omega]
    · have q1 : (((9 * w + (e + 1) : Nat) : Int) % 9 - 1).toNat = e := by omega
      have q3 : (((9 * w + (e + 1) : Nat) : Int) / 9).toNat = w := by omega
      refine ⟨9 * w + (e + 1), Or.inr ⟨by omega, by omega, by omega, Or.inr ⟨by omega, by rw [q1, q3]; exact h5⟩⟩, by omega, by omega, wct B w + B 12 e + (y + y2), ?_, by omega⟩
      rw [CL_of (by omega)]
      refine ⟨y + y2, ?_, ?_⟩
      · unfold sds esd
        rw [if_neg (by omega), q1, q3]
        subst h7
        exact (spR_app _ _ _ _ _).mpr ⟨q, y, y2, h1, h6, rfl⟩
      · unfold epr
        rw [if_neg (by omega), q1, q3]
  · rintro ⟨e, h1, h2, h3, c, h4, h5⟩
    rw [CL_of (by omega)] at h4
    obtain ⟨y, g1, g2⟩ := h4
    have q3 : ((e : Int) / 9).toNat = w := by omega
    rw [q3] at g2
    rcases h1 with h1 | ⟨_, _, _, h6⟩
    · omega
    · by_cases h8 : (e : Int) % 9 = 0
      · have h6 := h8
        unfold sds esd at g1
        unfold epr at g2
        rw [if_pos h6, List.append_nil, q3] at g1
        rw [if_pos h6] at g2
        exact ⟨b, y, 0, g1, Or.inl ⟨rfl, rfl⟩, by omega⟩
      · have hne : (e : Int) % 9 ≠ 0 := h8
        obtain ⟨h6, h7⟩ := h6.resolve_left h8
        unfold sds esd at g1
        unfold epr at g2
        rw [if_neg hne, q3] at g1
        rw [if_neg hne] at g2
        rw [q3] at h7
        obtain ⟨m, y1, y2, f1, f2, f3⟩ := (spR_app _ _ _ _ _).mp g1
        have hcl := (hW.2.2.2.1 ((e : Int) % 9 - 1).toNat (by omega)).2.2.1
        refine ⟨m, y1, 16 * y2 + (B 12 ((e : Int) % 9 - 1).toNat * 16 + (((e : Int) % 9 - 1).toNat : Int) + 1), f1, Or.inr ⟨by omega, ((e : Int) % 9 - 1).toNat, by omega, h7, b, y2, _, f2, ⟨rfl, rfl⟩, rfl⟩, by omega⟩
set_option maxHeartbeats 1000000 in
theorem q_walkWord {B : Nat → Nat → Int} {t : Nat → Int} (hB : GB B) (hW : GW B) (ht : ∀ k, inI (t k)) {b w : Nat} (hb : b ≤ 36) (hw : (w : Int) < B 18 0) {now next seeds lows : Nat → Int} {low high : Int} (nA xA : Nat) (hok : spOk now next low high) (hK : SK B t b (B 18 1).toNat seeds lows) {x1 x2 : Int} (e1 : x1 = w) (e2 : x2 = b) :
    wp (m_X6_walkWord x1 x2 (B 0) (B 1) (B 2) (B 3) (B 4) (B 7) (B 13) t now nA next xA low high seeds lows) (fun u => WO B t (ZW B t b w) (pfx (B 4 w) (siz 6 (B 4 w))) u.1 u.2.2.2.2.1 u.2.2.2.2.2 ∧ spOk u.1 u.2.2.1 u.2.2.2.2.1 u.2.2.2.2.2) := by
  have hW0 := hW.1
  have hE := hW.2.1
  obtain ⟨o1, o2, o3, o4, o5, o6⟩ := hok
  obtain ⟨⟨n, hwr⟩, _, _, hwc⟩ := hW.2.2.1 w hw
  have hsw := siz_of (by decide) hwr
  have hwn := hwr.2.1
  have hZ := ZW_bd (t := t) hB hW (w := w) hb
  have ew : x1.toNat = w := by omega
  have eb : x2.toNat = b := by omega
  have fin : ∀ (now' : Nat → Int) (lo : Int), (0 ≤ lo ∧ lo ≤ 36) → (∀ i, inI (now' i)) → WO B t (ZW B t b w) [] now' lo x2 → wp (m_X6_walkWord_61 x1 (B 0) (B 1) (B 2) (B 3) (B 4) (B 7) (B 13) t now' nA next xA lo x2 seeds lows) (fun u => WO B t (ZW B t b w) (pfx (B 4 w) (siz 6 (B 4 w))) u.1 u.2.2.2.2.1 u.2.2.2.2.2 ∧ spOk u.1 u.2.2.1 u.2.2.2.2.1 u.2.2.2.2.2) := by
    intro now' lo hlo hI h0
    unfold m_X6_walkWord_61
    rw [ew]
    refine wp_gd (by omega) (wp_bind (q_walkBack hB ht hZ (fun s hs => absurd hs List.not_mem_nil) (most := 6) (n := n) (Or.inl rfl) rfl hwr (hW.2.2.2.2 _).1 (by simp; omega) h0 ⟨hI, o2, by omega, by omega, by omega, by omega⟩ nA xA) ?_)
    rintro ⟨n1, n1A, n2, n2A, l2, h2⟩ ⟨w1, w2⟩
    refine wp_some ⟨?_, w2⟩
    rw [List.append_nil, ← hsw] at w1
    exact w1
  have hw0 : ∀ p x, wkS B t (ZW B t b w) [] p x ↔ ZW B t b w p x := by
    intro p x
    constructor
    · rintro ⟨q, y, z, ⟨h1, h2⟩, h3, h4⟩
      subst h1
      have : x = z := by omega
      rw [this]
      exact h3
    · intro h
      exact ⟨p, 0, x, ⟨rfl, rfl⟩, h, by omega⟩
  unfold m_X6_walkWord m_X6_startAt
  rw [ew, eb]
  refine wp_bind (P := fun u : (Nat → Int) × Int × Int => u = (uz now b 0, x2, x2)) (wp_gd (by omega) (wp_vl (wp_some rfl))) ?_
  rintro u rfl
  refine wp_gd (by omega) (wp_vl (wp_gd (by omega) (wp_if (fun c1 => ?_) (fun c1 => ?_))))
  · refine fin _ x2 (by omega) (uz_inI o1 (by decide)) ?_
    intro p hp
    have h1 := WO_start (B := B) (t := t) (now := now) (b := b) (v := 0) (by decide) p hp
    rw [e2]
    refine h1.iff (fun x => ?_)
    rw [hw0]
    constructor
    · rintro (⟨h2, h3⟩ | ⟨h2, _⟩)
      · exact ⟨p, 0, 0, ⟨rfl, rfl⟩, ⟨h2, rfl⟩, by omega⟩
      · exact absurd c1 h2
    · rintro ⟨q, y, z, ⟨h2, h3⟩, ⟨h4, h5⟩, h6⟩
      exact Or.inl ⟨by omega, by omega⟩
  · obtain ⟨C, eC⟩ : ∃ C : Nat, B 7 w = C := ⟨(B 7 w).toNat, by omega⟩
    have hC6 : C < 6 := by omega
    obtain ⟨k1, k2, k3, k4⟩ := hK
    obtain ⟨⟨l0, l1⟩, l2⟩ := k2 C hC6
    have eCn : (B 7 w).toNat = C := by omega
    rw [eCn]
    obtain ⟨l, el⟩ : ∃ l : Nat, lows C = l := ⟨(lows C).toNat, by omega⟩
    refine wp_gd (by omega) (wp_vl (wp_gd (by omega) (wp_vl ?_)))
    refine fin _ _ (by omega) ?_ ?_
    · intro i
      unfold zcp
      by_cases h : (lows C).toNat ≤ i ∧ i < (lows C).toNat + (x2 - lows C).toNat
      · rw [if_pos h]
        exact k3 _
      · rw [if_neg h]
        exact uz_inI o1 (by decide) i
    · intro p hp
      have hSDb : ∀ q x, SD B t b (B 18 1).toNat (B 7 w) q x → q < b := fun q x hx => (SD_in hB hW hb (by omega) hx).1
      have hval : ∀ v : Int, v = vw (zcp seeds (uz now b 0) ((B 7 w) * 37 + lows C).toNat (lows C).toNat (x2 - lows C).toNat) (lows C) x2 p → Lst (ZW B t b w p) 268435456 v → Lst (wkS B t (ZW B t b w) [] p) 268435456 (vw (zcp seeds (uz now b 0) ((B 7 w) * 37 + lows C).toNat (lows C).toNat (x2 - lows C).toNat) (lows C) x2 p) := by
        intro v hv hL
        rw [← hv]
        exact hL.iff (hw0 p)
      by_cases h1 : (p : Int) < lows C
      · refine hval 268435456 ?_ (Lst.none (fun x hx => ?_))
        · unfold vw
          rw [if_neg (by omega)]
        · rcases hx with ⟨h2, _⟩ | ⟨_, h2⟩
          · omega
          · rw [eC] at h2
            have := l2 p x h2
            omega
      · by_cases h2 : p < b
        · refine hval (seeds (37 * C + p)) ?_ ?_
          · unfold vw zcp
            rw [if_pos (by omega), if_pos (by omega)]
            congr 1
            omega
          · refine (k1 C p hC6 hp).iff (fun x => ?_)
            constructor
            · rintro (⟨h3, _⟩ | ⟨_, h3⟩)
              · omega
              · rw [eC] at h3
                exact h3
            · intro h3
              refine Or.inr ⟨c1, ?_⟩
              rw [eC]
              exact h3
        · by_cases h3 : p = b
          · refine hval 0 ?_ (Or.inr ⟨by decide, Or.inl ⟨h3, rfl⟩, fun x hx => ?_⟩)
            · unfold vw zcp
              rw [if_pos (by omega), if_neg (by omega), h3, uz_at]
            · rcases hx with ⟨_, h4⟩ | ⟨_, h4⟩
              · omega
              · have := hSDb p x h4
                omega
          · refine hval 268435456 ?_ (Lst.none (fun x hx => ?_))
            · unfold vw
              rw [if_neg (by omega)]
            · rcases hx with ⟨h4, _⟩ | ⟨_, h4⟩
              · exact h3 h4
              · have := hSDb p x h4
                omega
end
section
/-! a column of least values -/
theorem Lst.map {S S' : Int → Prop} {far far' v : Int} (f : Int → Int) (hm : ∀ x y, x ≤ y → f x ≤ f y) (hS : ∀ X, S' X ↔ ∃ x, S x ∧ X = f x) (hf : ∀ x, S x → f x < far') (h : Lst S far v) : Lst S' far' (if v = far then far' else f v) := by
  rcases h with ⟨h1, h2⟩ | ⟨h1, h2, h3⟩
  · rw [if_pos h1]
    refine Lst.none (fun X hX => ?_)
    obtain ⟨x, hx, _⟩ := (hS X).mp hX
    exact h2 x hx
  · rw [if_neg (by omega)]
    refine Or.inr ⟨hf v h2, (hS _).mpr ⟨v, h2, rfl⟩, fun X hX => ?_⟩
    obtain ⟨x, hx, e⟩ := (hS X).mp hX
    rw [e]
    exact hm _ _ (h3 x hx)
/-- the place of a stretch's values -/
def ix (a b k : Nat) : Nat := (b * (b - 1) / 2 + a) * 9 + k
/-- values of the parts of a kind over a stretch, of the guess and of the first w words -/
def VS (B : Nat → Nat → Int) (t : Nat → Int) (w a b k : Nat) (x : Int) : Prop := ∃ e : Nat, EV B e ∧ (e = 540 ∨ e / 9 < w) ∧ kd (B 6) e = k ∧ ∃ c, CL B t e a b c ∧ x = 1024 * c + e
def COL (B : Nat → Nat → Int) (t : Nat → Int) (w b : Nat) (vals : Nat → Int) : Prop := ∀ a k : Nat, a < b → k ≤ 8 → Lst (VS B t w a b k) 2147483647 (vals (ix a b k))
def pk (B : Nat → Nat → Int) (w : Nat) (v : Int) : Int := if v = 268435456 then 2147483647 else (wct B w + v / 16) * 1024 + (w * 9 + v % 16)
theorem pk_word {B : Nat → Nat → Int} {t : Nat → Int} (hB : GB B) (hW : GW B) {b w : Nat} (hw : (w : Int) < B 18 0) {a : Nat} {v : Int} (h : Lst (wkS B t (ZW B t b w) (pfx (B 4 w) (siz 6 (B 4 w))) a) 268435456 v) : Lst (fun x => ∃ e : Nat, EV B e ∧ e < 540 ∧ e / 9 = w ∧ ∃ c, CL B t e a b c ∧ x = 1024 * c + e) 2147483647 (pk B w v) := by
  have hW0 := hW.1
  refine Lst.map (fun v => (wct B w + v / 16) * 1024 + (w * 9 + v % 16)) (fun x y hxy => ?_) (fun X => ?_) (fun x hx => ?_) h
  · show (wct B w + x / 16) * 1024 + (w * 9 + x % 16) ≤ (wct B w + y / 16) * 1024 + (w * 9 + y % 16)
    omega
  · constructor
    · rintro ⟨e, h1, h2, h3, c, h4, h5⟩
      refine ⟨16 * (c - wct B w) + ((e % 9 : Nat) : Int), (ZW_CL hW hw).mpr ⟨e, h1, h2, h3, c, h4, rfl⟩, ?_⟩
      show X = _
      omega
    · rintro ⟨x, h1, h2⟩
      obtain ⟨e, g1, g2, g3, c, g4, g5⟩ := (ZW_CL hW hw).mp h1
      have h2 : X = (wct B w + x / 16) * 1024 + (w * 9 + x % 16) := h2
      exact ⟨e, g1, g2, g3, c, g4, by omega⟩
  · obtain ⟨e, g1, g2, g3, c, g4, g5⟩ := (ZW_CL hW hw).mp hx
    have := CL_bd hB hW g1 g4
    show (wct B w + x / 16) * 1024 + (w * 9 + x % 16) < 2147483647
    omega
theorem ix_lt {a b k : Nat} (hb : b ≤ 36) (ha : a < b) (hk : k ≤ 8) : ix a b k < 5994 := by
  unfold ix
  have h1 : b * (b - 1) ≤ 36 * 35 := Nat.mul_le_mul hb (by omega)
  by_cases h : b = 36
  · subst h
    omega
  · have h2 : b * (b - 1) ≤ 35 * 34 := Nat.mul_le_mul (by omega) (by omega)
    omega
set_option maxHeartbeats 2000000 in
theorem q_enter {B : Nat → Nat → Int} {t : Nat → Int} (hB : GB B) (hW : GW B) {b w : Nat} (hb : b ≤ 36) (hw : (w : Int) < B 18 0) {now vals : Nat → Int} {low high : Int} (hl : 0 ≤ low ∧ low ≤ 36) (hh : -1 ≤ high ∧ high ≤ 36) (hN : ∀ i, inI (now i)) (hV : ∀ i, inI (vals i)) (hO : WO B t (ZW B t b w) (pfx (B 4 w) (siz 6 (B 4 w))) now low high) {x1 x2 : Int} {K : Nat} (hK : B 6 w = K) (e1 : x1 = w) (e2 : x2 = ((ix 0 b K : Nat) : Int)) :
    wp (m_X5_enter x1 x2 (B 8) (B 13) vals now low high) (fun u => (∀ a k : Nat, a < b → k ≤ 8 → u (ix a b k) = if k = K then min (vals (ix a b k)) (pk B w (vw now low high a)) else vals (ix a b k)) ∧ (∀ i, (i < ix 0 b 0 ∨ ix 0 b 0 + 9 * b ≤ i) → u i = vals i) ∧ ∀ i, inI (u i)) := by
  have hW0 := hW.1
  obtain ⟨⟨n, hwr⟩, _, hwk, _⟩ := hW.2.2.1 w hw
  have hsw := siz_of (by decide) hwr
  have hn1 := hwr.1
  have hn2 := hwr.2.1
  have hlt := pfx_lt hwr n (Nat.le_refl n)
  have hZ := ZW_bd (t := t) hB hW (w := w) hb
  have hfar : ∀ p : Nat, p ≤ 36 → vw now low high p ≠ 268435456 → p < b ∧ 0 ≤ vw now low high p ∧ vw now low high p < 60000 := by
    intro p hp hne
    have h1 := (hO p hp).mem hne
    rw [hsw] at h1
    have h2 := wkS_bd hB hZ hlt (by rw [pfx_len]; omega) h1
    obtain ⟨q, y, z, g1, g2, g3⟩ := h1
    have g4 := spR_lt hB hlt (by rw [pfx_len]; omega) g1
    have g5 : q ≤ b := by
      rcases g2 with ⟨h, _⟩ | ⟨_, h⟩
      · omega
      · have := SD_in hB hW hb (by have := hW.2.1; omega) h
        omega
    exact ⟨by omega, h2.1, h2.2.1⟩
  have hwc : -300 ≤ wct B w ∧ wct B w ≤ 200 := by
    have h4 := hB.2.2.2.2 2 (by decide)
    have h5 := bl_le (B 8 w)
    unfold wct
    omega
  unfold m_X5_enter
  refine wp_eq (q_wordCost (w := w) (by omega) (hB.1 8 _ (by decide) (by decide) (by decide)) e1) ?_
  show wp ((zloop (fun a => m_X5_enter_18 x1 x2 (wct B w) a.1 (B 8) (B 13) a.2 now low high) FU (low, vals)).bind _) _
  refine wp_bind (P := fun u : Nat × Int × (Nat → Int) => (∀ a k : Nat, a < b → k ≤ 8 → u.2.2 (ix a b k) = if k = K then min (vals (ix a b k)) (pk B w (vw now low high a)) else vals (ix a b k)) ∧ (∀ i, (i < ix 0 b 0 ∨ ix 0 b 0 + 9 * b ≤ i) → u.2.2 i = vals i) ∧ ∀ i, inI (u.2.2 i)) (wp_loop (fun j d => d.1 = low + j ∧ (∀ a k : Nat, a < b → k ≤ 8 → d.2 (ix a b k) = if k = K ∧ (a : Int) < low + j then min (vals (ix a b k)) (pk B w (vw now low high a)) else vals (ix a b k)) ∧ (∀ i, (i < ix 0 b 0 ∨ ix 0 b 0 + 9 * b ≤ i) → d.2 i = vals i) ∧ ∀ i, inI (d.2 i)) (high - low + 1).toNat (by omega) ⟨by show low = _; omega, fun a k ha hk => ?_, fun i _ => rfl, hV⟩ ?_) ?_
  · show vals (ix a b k) = _
    by_cases h : k = K ∧ (a : Int) < low + (0 : Nat)
    · rw [if_pos h]
      have hv : vw now low high a = 268435456 := by
        unfold vw
        rw [if_neg (by omega)]
      unfold pk
      rw [if_pos hv]
      have := hV (ix a b k)
      omega
    · rw [if_neg h]
  · intro j d hj hs
    obtain ⟨d1, d2, d3, d4⟩ := hs
    unfold m_X5_enter_18
    refine wp_gd (by omega) (wp_gd (by omega) (wp_if (fun c1 => ?_) (fun c1 => ?_)))
    · refine wp_end (by decide) ⟨fun a k ha hk => ?_, d3, d4⟩
      show d.2 (ix a b k) = _
      rw [d2 a k ha hk]
      by_cases h : k = K
      · rw [if_pos h]
        by_cases h3 : (a : Int) < low + j
        · rw [if_pos ⟨h, h3⟩]
        · rw [if_neg (fun z => h3 z.2)]
          have hv : vw now low high a = 268435456 := by
            unfold vw
            rw [if_neg (by omega)]
          unfold pk
          rw [if_pos hv]
          have := hV (ix a b k)
          omega
      · rw [if_neg h, if_neg (fun z => h z.1)]
    · obtain ⟨P, eP⟩ : ∃ P : Nat, d.1 = P := ⟨d.1.toNat, by omega⟩
      have e6 : d.1.toNat = P := by omega
      have hvP : vw now low high P = now P := by
        unfold vw
        rw [if_pos (by omega)]
      have hP36 : P ≤ 36 := by omega
      rw [e6]
      refine wp_gd (by omega) (wp_vl (wp_gd (hN _) (wp_if (fun c2 => ?_) (fun c2 => ?_))))
      · refine wp_vl (wp_go ⟨by omega, by show d.1 + 1 = _; omega, fun a k ha hk => ?_, d3, d4⟩)
        show d.2 (ix a b k) = _
        rw [d2 a k ha hk]
        by_cases h : k = K ∧ (a : Int) < low + j
        · rw [if_pos h, if_pos (by omega)]
        · rw [if_neg h]
          by_cases h3 : k = K ∧ (a : Int) < low + ((j + 1 : Nat) : Int)
          · rw [if_pos h3]
            have haP : a = P := by omega
            have hv : vw now low high a = 268435456 := by rw [haP, hvP]; exact c2
            unfold pk
            rw [if_pos hv]
            have := hV (ix a b k)
            omega
          · rw [if_neg h3]
      · have hf := hfar P hP36 (by rw [hvP]; exact c2)
        rw [hvP] at hf
        have hpk : (wct B w + now P / 16) * 1024 + (x1 * 9 + now P % 16) = pk B w (vw now low high P) := by
          unfold pk
          rw [hvP, if_neg c2, e1]
        have hixP := ix_lt (a := P) (b := b) (k := K) hb hf.1 (by omega)
        have hix : (x2 + d.1 * 9).toNat = ix P b K := by
          rw [e2, eP]
          unfold ix
          omega
        have hixI : x2 + d.1 * 9 = ((ix P b K : Nat) : Int) := by
          rw [e2, eP]
          unfold ix
          omega
        refine wp_vl (wp_vl (wp_vl ?_))
        rw [hix, hixI, hpk]
        have hpI : inI (pk B w (vw now low high P)) := by
          rw [← hpk]
          omega
        have hd4 := d4 (ix P b K)
        refine wp_gd (by omega) (wp_gd hd4 (wp_gd hpI (wp_gd (by omega) (wp_vl (wp_vl (wp_go ⟨by omega, by show d.1 + 1 = _; omega, fun a k ha hk => ?_, fun i hi => ?_, uz_inI d4 (by omega)⟩))))))
        · show uz d.2 (ix P b K) _ (ix a b k) = _
          by_cases h : k = K ∧ a = P
          · obtain ⟨rfl, rfl⟩ := h
            rw [uz_at, if_pos ⟨rfl, by omega⟩, d2 a k ha hk, if_neg (by omega)]
          · have hne : ix a b k ≠ ix P b K := by
              unfold ix
              omega
            rw [uz_ne _ _ hne, d2 a k ha hk]
            by_cases h3 : k = K ∧ (a : Int) < low + j
            · rw [if_pos h3, if_pos (by omega)]
            · rw [if_neg h3, if_neg (by omega)]
        · show uz d.2 (ix P b K) _ i = _
          have hne : i ≠ ix P b K := by
            unfold ix at hi ⊢
            omega
          rw [uz_ne _ _ hne]
          exact d3 i hi
  · rintro ⟨t18, y4, vv⟩ hu
    exact wp_some hu
end
section
/-! columns filled and renewed -/
theorem ix_apart {a b k a' b' k' : Nat} (ha : a < b) (hk : k ≤ 8) (ha' : a' < b') (hk' : k' ≤ 8) (hb : b ≠ b') : ix a b k < ix 0 b' 0 ∨ ix 0 b' 0 + 9 * b' ≤ ix a b k := by
  unfold ix
  have tri : ∀ c : Nat, 1 ≤ c → c * (c - 1) / 2 + c = (c + 1) * (c + 1 - 1) / 2 := by
    intro c hc
    obtain ⟨d, rfl⟩ : ∃ d, c = d + 1 := ⟨c - 1, by omega⟩
    rw [show d + 1 - 1 = d by omega, show d + 1 + 1 - 1 = d + 1 by omega]
    have h1 : (d + 1 + 1) * (d + 1) = (d + 1) * d + 2 * (d + 1) := by
      rw [Nat.add_mul, Nat.add_mul, Nat.mul_comm d (d + 1), Nat.mul_add, Nat.mul_add]
      omega
    rw [h1]
    omega
  have mono : ∀ c d : Nat, c ≤ d → c * (c - 1) / 2 ≤ d * (d - 1) / 2 := fun c d h => Nat.div_le_div_right (Nat.mul_le_mul h (by omega))
  rcases Nat.lt_or_gt_of_ne hb with h | h
  · have h1 := tri b (by omega)
    have h2 := mono (b + 1) b' (by omega)
    left
    omega
  · have h1 := tri b' (by omega)
    have h2 := mono (b' + 1) b (by omega)
    right
    omega
set_option maxHeartbeats 2000000 in
theorem q_fillColumn {B : Nat → Nat → Int} {t : Nat → Int} (hB : GB B) (hW : GW B) (ht : ∀ k, inI (t k)) {b : Nat} (hb1 : 1 ≤ b) (hb : b ≤ 36) {now next seeds lows vals : Nat → Int} {low high : Int} (nA xA : Nat) (hok : spOk now next low high) (hK : SK B t b (B 18 1).toNat seeds lows) (hV : ∀ i, inI (vals i)) {x1 : Int} (e1 : x1 = b) :
    wp (m_X5_fillColumn x1 (B 0) (B 1) (B 2) (B 3) (B 18 0) (B 4) (B 6) (B 7) (B 8) (B 13) t vals now nA next xA low high seeds lows) (fun u => COL B t (B 18 0).toNat b u.1 ∧ (∀ i, (i < ix 0 b 0 ∨ ix 0 b 0 + 9 * b ≤ i) → u.1 i = vals i) ∧ (∀ i, inI (u.1 i)) ∧ spOk u.2.1 u.2.2.2.1 u.2.2.2.2.2.1 u.2.2.2.2.2.2) := by
  have hW0 := hW.1
  have hpr := hB.2.2.2.2 1 (by decide)
  have hT : (((b * (b - 1) / 2 : Nat) : Int)) = (b : Int) * ((b : Int) - 1) / 2 := by
    rw [Int.natCast_ediv, Int.natCast_mul, Int.natCast_sub hb1]
    rfl
  obtain ⟨T, eT⟩ : ∃ T : Nat, T = b * (b - 1) / 2 := ⟨_, rfl⟩
  rw [← eT] at hT
  have hix : ∀ a k, ix a b k = (T + a) * 9 + k := by
    intro a k
    unfold ix
    rw [eT]
  have htop := ix_lt (a := b - 1) (b := b) (k := 8) hb (by omega) (by omega)
  rw [hix] at htop
  unfold m_X5_fillColumn
  refine wp_eq (q_placeOf (by omega) (by omega)) ?_
  rw [e1, ← hT]
  refine wp_eq (q_fillRange (by omega) (by omega) (by omega) ⟨by decide, by omega⟩) (wp_eq (q_placeOf (by omega) (by omega)) ?_)
  rw [← hT]
  have ec : (((T : Int) + 0) * 9).toNat = ix 0 b 0 := by rw [hix]; omega
  have ec2 : (((T : Int) + 0) * 9 + (b : Int) * 9).toNat = ix 0 b 0 + 9 * b := by rw [hix]; omega
  have eg : (((T : Int) + ((b : Int) - 1)) * 9 + 8).toNat = ix (b - 1) b 8 := by rw [hix]; omega
  rw [ec, ec2, eg, show Int.toNat 1 = 1 from rfl]
  refine wp_gd (by omega) (wp_vl ?_)
  obtain ⟨v0, ev0⟩ : ∃ v0, v0 = uz (fz vals (ix 0 b 0) (ix 0 b 0 + 9 * b) 2147483647) (ix (b - 1) b 8) (B 13 1 * 1024 + 540) := ⟨_, rfl⟩
  rw [← ev0]
  have hV0 : ∀ i, inI (v0 i) := by
    rw [ev0]
    exact uz_inI (fz_inI hV (by decide)) (by omega)
  have hout0 : ∀ i, (i < ix 0 b 0 ∨ ix 0 b 0 + 9 * b ≤ i) → v0 i = vals i := by
    intro i hi
    rw [ev0, uz_ne _ _ (by rw [hix] at hi ⊢; omega), fz_out _ _ (by omega)]
  have hguess : ∀ (a k : Nat) x, VS B t 0 a b k x ↔ (k = 8 ∧ b = a + 1 ∧ x = 1024 * B 13 1 + 540) := by
    intro a k x
    constructor
    · rintro ⟨e, h1, h2, h3, c, h4, h5⟩
      have he : e = 540 := by omega
      subst he
      unfold kd at h3
      rw [if_pos (by rfl)] at h3
      unfold CL at h4
      rw [if_pos (by rfl)] at h4
      exact ⟨by omega, h4.1, by omega⟩
    · rintro ⟨h1, h2, h3⟩
      refine ⟨540, Or.inl rfl, Or.inl rfl, ?_, B 13 1, ?_, by omega⟩
      · unfold kd
        rw [if_pos (by rfl)]
        omega
      · unfold CL
        rw [if_pos (by rfl)]
        exact ⟨h2, rfl⟩
  have hC0 : COL B t 0 b v0 := by
    intro a k ha hk
    by_cases h : a = b - 1 ∧ k = 8
    · obtain ⟨rfl, rfl⟩ := h
      rw [ev0, uz_at]
      refine Or.inr ⟨by omega, (hguess _ _ _).mpr ⟨rfl, by omega, by omega⟩, fun x hx => ?_⟩
      have := ((hguess _ _ _).mp hx).2.2
      omega
    · have hne : ix a b k ≠ ix (b - 1) b 8 := by
        rw [hix, hix]
        omega
      rw [ev0, uz_ne _ _ hne, fz_in _ _ (by rw [hix, hix]; omega)]
      refine Lst.none (fun x hx => ?_)
      have := (hguess _ _ _).mp hx
      omega
  refine wp_bind (P := fun u : Nat × Int × (Nat → Int) × (Nat → Int) × Nat × (Nat → Int) × Nat × Int × Int => COL B t (B 18 0).toNat b u.2.2.1 ∧ (∀ i, (i < ix 0 b 0 ∨ ix 0 b 0 + 9 * b ≤ i) → u.2.2.1 i = vals i) ∧ (∀ i, inI (u.2.2.1 i)) ∧ spOk u.2.2.2.1 u.2.2.2.2.2.1 u.2.2.2.2.2.2.2.1 u.2.2.2.2.2.2.2.2) (wp_loop (fun w y => y.1 = (w : Int) ∧ COL B t w b y.2.1 ∧ (∀ i, (i < ix 0 b 0 ∨ ix 0 b 0 + 9 * b ≤ i) → y.2.1 i = vals i) ∧ (∀ i, inI (y.2.1 i)) ∧ spOk y.2.2.1 y.2.2.2.2.1 y.2.2.2.2.2.2.1 y.2.2.2.2.2.2.2) (B 18 0).toNat (by omega) ⟨rfl, hC0, hout0, hV0, hok⟩ ?_) ?_
  · intro w y hw hs
    obtain ⟨a1, a2, a3, a4, a5⟩ := hs
    unfold m_X5_fillColumn_57
    refine wp_gd (by omega) (wp_gd (by omega) (wp_if (fun c1 => ?_) (fun c1 => ?_)))
    · refine wp_end (by decide) ⟨?_, a3, a4, a5⟩
      rw [show (B 18 0).toNat = w by omega]
      exact a2
    · have hwW : (w : Int) < B 18 0 := by omega
      obtain ⟨_, _, hwk, _⟩ := hW.2.2.1 w hwW
      obtain ⟨K, eK⟩ : ∃ K : Nat, B 6 w = K := ⟨(B 6 w).toNat, by omega⟩
      refine wp_bind (q_walkWord hB hW ht hb hwW _ _ a5 hK a1 rfl) ?_
      rintro ⟨n1, n1A, n2, n2A, lo, hi⟩ ⟨w1, w2⟩
      have w1 : WO B t (ZW B t b w) (pfx (B 4 w) (siz 6 (B 4 w))) n1 lo hi := w1
      have w2 : spOk n1 n2 lo hi := w2
      obtain ⟨o1, o2, o3, o4, o5, o6⟩ := id w2
      have hstep : ∀ (vv : Nat → Int), (∀ a k : Nat, a < b → k ≤ 8 → vv (ix a b k) = if k = K then min (y.2.1 (ix a b k)) (pk B w (vw n1 lo hi a)) else y.2.1 (ix a b k)) → COL B t (w + 1) b vv := by
        intro vv hvv a k ha hk
        rw [hvv a k ha hk]
        have hdiff : ∀ x, VS B t (w + 1) a b k x ↔ VS B t w a b k x ∨ (k = K ∧ ∃ e : Nat, EV B e ∧ e < 540 ∧ e / 9 = w ∧ ∃ c, CL B t e a b c ∧ x = 1024 * c + e) := by
          intro x
          have hkd : ∀ e : Nat, e < 540 → e / 9 = w → kd (B 6) e = K := by
            intro e h1 h2
            unfold kd
            rw [if_neg (by omega), show ((e : Int) / 9).toNat = w by omega, eK]
          constructor
          · rintro ⟨e, h1, h2, h3, h4⟩
            by_cases h5 : e < 540 ∧ e / 9 = w
            · refine Or.inr ⟨?_, e, h1, h5.1, h5.2, h4⟩
              have := hkd e h5.1 h5.2
              omega
            · exact Or.inl ⟨e, h1, by rcases h1 with z | z <;> omega, h3, h4⟩
          · rintro (⟨e, h1, h2, h3, h4⟩ | ⟨h0, e, h1, h2, h3, h4⟩)
            · exact ⟨e, h1, by omega, h3, h4⟩
            · exact ⟨e, h1, by omega, by rw [hkd e h2 h3, h0], h4⟩
        by_cases h : k = K
        · rw [if_pos h]
          refine (a2 a k ha hk).union (pk_word hB hW hwW (w1 a (by omega))) (fun x => ?_)
          rw [hdiff]
          constructor
          · rintro (z | ⟨_, z⟩)
            · exact Or.inl z
            · exact Or.inr z
          · rintro (z | z)
            · exact Or.inl z
            · exact Or.inr ⟨h, z⟩
        · rw [if_neg h]
          refine (a2 a k ha hk).iff (fun x => ?_)
          rw [hdiff]
          constructor
          · rintro (z | ⟨z, _⟩)
            · exact z
            · exact absurd z h
          · exact Or.inl
      refine wp_gd (by omega) (wp_gd (by omega) (wp_if (fun c2 => ?_) (fun c2 => ?_)))
      · refine wp_vl (wp_go ⟨by omega, by show y.1 + 1 = _; omega, hstep y.2.1 (fun a k ha hk => ?_), a3, a4, w2⟩)
        by_cases h : k = K
        · rw [if_pos h]
          have hv : vw n1 lo hi a = 268435456 := by
            unfold vw
            rw [if_neg (by omega)]
          unfold pk
          rw [if_pos hv]
          have := a4 (ix a b k)
          omega
        · rw [if_neg h]
      · rw [show y.1.toNat = w by omega]
        refine wp_gd (by omega) (wp_bind (q_enter hB hW hb hwW ⟨o3, o4⟩ ⟨o5, o6⟩ o1 a4 w1 (K := K) eK a1 (by rw [eK, hix]; omega)) ?_)
        rintro vv ⟨v1, v2, v3⟩
        exact wp_vl (wp_go ⟨by omega, by show y.1 + 1 = _; omega, hstep vv v1, fun i hi => (v2 i hi).trans (a3 i hi), v3, w2⟩)
  · rintro ⟨t57, y3, vv, n1, n1A, n2, n2A, lo, hi⟩ hu
    exact wp_some hu
theorem mis_congr {t t' : Nat → Int} {row : Int} {p : Nat} : ∀ k, (∀ i, p ≤ i → i < p + k → t i = t' i) → mis t row p k = mis t' row p k := by
  intro k
  induction k with
  | zero => intro _; rfl
  | succ k ih =>
    intro h
    show mis t row p k + (if pz 5 row k = t (p + k) then 0 else 1) = mis t' row p k + (if pz 5 row k = t' (p + k) then 0 else 1)
    rw [ih (fun i h1 h2 => h i h1 (by omega)), h (p + k) (by omega) (by omega)]
theorem spR_congr {B : Nat → Nat → Int} {t t' : Nat → Int} (hB : GB B) {b : Nat} : ∀ (ss : List Nat), (∀ s ∈ ss, s < 50) → ∀ (a : Nat) (x : Int), (∀ i, a ≤ i → i < b → t i = t' i) → spR B t ss a b x → spR B t' ss a b x := by
  intro ss
  induction ss with
  | nil => intro _ a x _ h; exact h
  | cons s ss ih =>
    rintro hs a x ht ⟨j, y, h1, h2, h3, h4⟩
    have hle := (spR_bd hB ss (fun s' h => hs s' (List.mem_cons_of_mem _ h)) _ _ _ h3).2.2
    have e := mis_congr (row := B 1 (3 * s + j)) (p := a) (t := t) (t' := t') (B 2 (3 * s + j)).toNat (fun i g1 g2 => ht i g1 (by omega))
    refine ⟨j, y, h1, ?_, ih (fun s' h => hs s' (List.mem_cons_of_mem _ h)) _ _ (fun i g1 g2 => ht i (by omega) g2) h3, ?_⟩
    · unfold fit at h2 ⊢
      rw [← e]
      exact h2
    · unfold prc at h4 ⊢
      rw [← e]
      exact h4
theorem CL_congr {B : Nat → Nat → Int} {t t' : Nat → Int} (hB : GB B) (hW : GW B) {e : Int} (he : EV B e) {a b : Nat} (ht : ∀ i, i < b → t i = t' i) (x : Int) : CL B t e a b x ↔ CL B t' e a b x := by
  unfold CL
  by_cases h : e = 540
  · rw [if_pos h, if_pos h]
  · rw [if_neg h, if_neg h]
    have hs := (sds_ok hW he h).1
    constructor
    · rintro ⟨y, h1, h2⟩
      exact ⟨y, spR_congr hB _ hs _ _ (fun i _ g => ht i g) h1, h2⟩
    · rintro ⟨y, h1, h2⟩
      exact ⟨y, spR_congr hB _ hs _ _ (fun i _ g => (ht i g).symm) h1, h2⟩
theorem COL_congr {B : Nat → Nat → Int} {t t' : Nat → Int} (hB : GB B) (hW : GW B) {w b : Nat} {vals : Nat → Int} (ht : ∀ i, i < b → t i = t' i) (h : COL B t w b vals) : COL B t' w b vals := by
  intro a k ha hk
  refine (h a k ha hk).iff (fun x => ?_)
  constructor
  · rintro ⟨e, h1, h2, h3, c, h4, h5⟩
    exact ⟨e, h1, h2, h3, c, (CL_congr hB hW h1 ht c).mpr h4, h5⟩
  · rintro ⟨e, h1, h2, h3, c, h4, h5⟩
    exact ⟨e, h1, h2, h3, c, (CL_congr hB hW h1 ht c).mp h4, h5⟩
/-- the columns that are kept stand, of the letters as they were read -/
def VO (B : Nat → Nat → Int) (cols : Nat) (vals lr : Nat → Int) : Prop := cols ≤ 36 ∧ (∀ b, 1 ≤ b → b ≤ cols → COL B lr (B 18 0).toNat b vals) ∧ (∀ i, inI (vals i)) ∧ ∀ i, inI (lr i)
set_option maxHeartbeats 2000000 in
theorem q_spans {B : Nat → Nat → Int} {t : Nat → Int} (hB : GB B) (hW : GW B) (ht : ∀ k, inI (t k)) {n cols : Nat} (hn : n ≤ 36) {now next seeds lows vals lr : Nat → Int} {low high : Int} (nA xA : Nat) (hok : spOk now next low high) (hSd : ∀ i, inI (seeds i)) (hLo : ∀ i, inI (lows i)) (hV : VO B cols vals lr) {sl vc : Int} (es : sl = n) (ec : vc = cols) :
    wp (m_X5_renew (B 0) (B 1) (B 2) (B 3) (B 18 0) (B 4) (B 6) (B 7) (B 8) (B 18 1) (B 9) (B 11) (B 12) (B 13) sl t vals lr vc now nA next xA low high seeds lows) (fun u => (∃ cols' : Nat, u.2.2.1 = cols' ∧ VO B cols' u.1 u.2.1) ∧ (∀ b, 1 ≤ b → b ≤ n → COL B t (B 18 0).toNat b u.1) ∧ spOk u.2.2.2.1 u.2.2.2.2.2.1 u.2.2.2.2.2.2.2.1 u.2.2.2.2.2.2.2.2.1 ∧ (∀ i, inI (u.2.2.2.2.2.2.2.2.2.1 i)) ∧ ∀ i, inI (u.2.2.2.2.2.2.2.2.2.2 i)) := by
  obtain ⟨v1, v2, v3, v4⟩ := hV
  unfold m_X5_renew
  refine wp_bind (P := fun u : Nat × Int => ∃ m : Nat, u.2 = m ∧ m ≤ n ∧ m ≤ cols ∧ ∀ i, i < m → lr i = t i) (wp_loop (fun k y => y = (k : Int) ∧ k ≤ n ∧ k ≤ cols ∧ ∀ i, i < k → lr i = t i) 36 (by omega) ⟨rfl, by omega, by omega, fun i h => absurd h (by omega)⟩ ?_) ?_
  · intro k y hk hs
    obtain ⟨a1, a2, a3, a4⟩ := hs
    unfold m_X5_renew_2
    refine wp_gd (by omega) (wp_gd (by omega) (wp_if (fun c1 => ?_) (fun c1 => ?_)))
    · exact wp_end (by decide) ⟨k, a1, a2, a3, a4⟩
    · refine wp_gd (by omega) (wp_if (fun c2 => ?_) (fun c2 => ?_))
      · exact wp_end (by decide) ⟨k, a1, a2, a3, a4⟩
      · rw [show y.toNat = k by omega]
        refine wp_gd (by omega) (wp_gd (by omega) (wp_gd (v4 _) (wp_gd (ht _) (wp_if (fun c3 => ?_) (fun c3 => ?_)))))
        · refine wp_vl (wp_go ⟨by omega, by show y + 1 = _; omega, by omega, by omega, fun i hi => ?_⟩)
          by_cases h : i = k
          · rw [h]
            exact c3
          · exact a4 i (by omega)
        · exact wp_end (by decide) ⟨k, a1, a2, a3, a4⟩
  · rintro ⟨t2, y⟩ ⟨m, e1, m1, m2, m3⟩
    have e1 : y = m := e1
    unfold m_X5_renew_45
    refine wp_vl (wp_bind (P := fun u : Nat × Int × (Nat → Int) × (Nat → Int) × Int × (Nat → Int) × Nat × (Nat → Int) × Nat × Int × Int × (Nat → Int) × (Nat → Int) => (∃ cols' : Nat, u.2.2.2.2.1 = cols' ∧ VO B cols' u.2.2.1 u.2.2.2.1) ∧ (∀ b, 1 ≤ b → b ≤ n → COL B t (B 18 0).toNat b u.2.2.1) ∧ spOk u.2.2.2.2.2.1 u.2.2.2.2.2.2.2.1 u.2.2.2.2.2.2.2.2.2.1 u.2.2.2.2.2.2.2.2.2.2.1 ∧ (∀ i, inI (u.2.2.2.2.2.2.2.2.2.2.2.1 i)) ∧ ∀ i, inI (u.2.2.2.2.2.2.2.2.2.2.2.2 i)) (wp_loop (fun k a => a.1 = ((m + k + 1 : Nat) : Int) ∧ (∃ cols' : Nat, a.2.2.2.1 = cols' ∧ m + k ≤ cols' ∧ VO B cols' a.2.1 a.2.2.1) ∧ (∀ i, i < m + k → a.2.2.1 i = t i) ∧ spOk a.2.2.2.2.1 a.2.2.2.2.2.2.1 a.2.2.2.2.2.2.2.2.1 a.2.2.2.2.2.2.2.2.2.1 ∧ (∀ i, inI (a.2.2.2.2.2.2.2.2.2.2.1 i)) ∧ ∀ i, inI (a.2.2.2.2.2.2.2.2.2.2.2 i)) (n - m) (by omega) ⟨by show y + 1 = _; omega, ⟨cols, ec, by omega, v1, v2, v3, v4⟩, m3, hok, hSd, hLo⟩ ?_) ?_)
    · intro k a hk hs
      obtain ⟨a1, ⟨cols', a2, a3, w1, w2, w3, w4⟩, a4, a5, a6, a7⟩ := hs
      unfold m_X5_renew_49
      refine wp_gd (by omega) (wp_gd (by omega) (wp_if (fun c1 => ?_) (fun c1 => ?_)))
      · refine wp_end (by decide) ⟨⟨cols', a2, w1, w2, w3, w4⟩, fun b h1 h2 => ?_, a5, a6, a7⟩
        exact COL_congr hB hW (fun i hi => a4 i (by omega)) (w2 b h1 (by omega))
      · have e2 : (a.1 - 1).toNat = m + k := by omega
        rw [e2]
        refine wp_gd (by omega) (wp_gd (by omega) (wp_vl (wp_bind (q_seedEndings hB hW ht (b := m + k + 1) (by omega) _ _ a5 a6 a7 a1) ?_)))
        rintro ⟨n1, n1A, n2, n2A, lo, hi, sd, ls⟩ ⟨s1, s2⟩
        refine wp_bind (q_fillColumn hB hW ht (b := m + k + 1) (by omega) (by omega) _ _ s2 s1 w3 a1) ?_
        rintro ⟨vv, q1, q1A, q2, q2A, l2, h2⟩ ⟨f1, f2, f3, f4⟩
        have f1 : COL B t (B 18 0).toNat (m + k + 1) vv := f1
        have f2 : ∀ i, (i < ix 0 (m + k + 1) 0 ∨ ix 0 (m + k + 1) 0 + 9 * (m + k + 1) ≤ i) → vv i = a.2.1 i := f2
        have hlr : ∀ i, i < m + k + 1 → uz a.2.2.1 (m + k) (t (m + k)) i = t i := by
          intro i hi
          by_cases h : i = m + k
          · rw [h, uz_at]
          · rw [uz_ne _ _ h]
            exact a4 i (by omega)
        refine wp_vl (wp_go ⟨by omega, by show a.1 + 1 = _; omega, ⟨m + k + 1, a1, by omega, by omega, fun b h1 h2 => ?_, f3, uz_inI w4 (ht _)⟩, hlr, f4, s1.2.2.1, s1.2.2.2⟩)
        show COL B (uz a.2.2.1 (m + k) (t (m + k))) (B 18 0).toNat b vv
        by_cases hb : b = m + k + 1
        · subst hb
          exact COL_congr hB hW (fun i hi => (hlr i hi).symm) f1
        · have h9 := w2 b h1 (by omega)
          have h10 : COL B a.2.2.1 (B 18 0).toNat b vv := by
            intro x k2 hx hk2
            rw [f2 _ (ix_apart hx hk2 (Nat.zero_lt_succ (m + k)) (Nat.zero_le 8) hb)]
            exact h9 x k2 hx hk2
          refine COL_congr hB hW (fun i hi => ?_) h10
          rw [uz_ne _ _ (by omega)]
    · rintro ⟨t49, y2, vv, lr2, vc2, n1, n1A, n2, n2A, lo, hi, sd, ls⟩ hu
      exact wp_some hu
end
section
/-! the class's reading: values, heads, rests -/
def FXC (B : Nat → Nat → Int) (n : Nat) : Prop := ∀ i, i < 36 → B 19 i ≠ 0 → ∃ b e : Nat, B 19 i = 1024 * (b : Int) + e ∧ i < b ∧ b ≤ n ∧ EV B e ∧ e ≤ 540
theorem FX_C {B : Nat → Nat → Int} {n fm : Nat} {fF fT fW fE : Nat → Int} (h : FX B n fm fF fT fW fE) : FXC B n := by
  intro i hi hne
  obtain ⟨f, h1, h2⟩ := h.2.2.1 i hi hne
  obtain ⟨⟨p1, p2, p3⟩, ⟨q1, q2, q3, q4, q5⟩, hev, h4, _⟩ := h.2.1 f h1
  refine ⟨(fT f).toNat, (9 * fW f + fE f + 1).toNat, ?_, by omega, by omega, ?_, by omega⟩
  · rw [show i = (fF f).toNat by omega, h4]
    omega
  · rw [show (((9 * fW f + fE f + 1).toNat : Nat) : Int) = 9 * fW f + fE f + 1 by omega]
    exact hev
/-- values of the parts of a kind over a stretch, as the fixed parts allow -/
def VV (B : Nat → Nat → Int) (t : Nat → Int) (a b k : Nat) (x : Int) : Prop := ∃ e : Nat, EV B e ∧ (B 19 a = 0 ∨ B 19 a = 1024 * (b : Int) + e) ∧ kd (B 6) e = k ∧ ∃ c, CL B t e a b c ∧ x = 1024 * c + e
theorem VV_bd {B : Nat → Nat → Int} {t : Nat → Int} (hB : GB B) (hW : GW B) {a b k : Nat} {x : Int} (h : VV B t a b k x) : -400000 ≤ x ∧ x ≤ 4000000 := by
  obtain ⟨e, h1, _, _, c, h4, h5⟩ := h
  have := CL_bd hB hW h1 h4
  have : e ≤ 540 := by rcases h1 with z | z <;> omega
  omega
def FV (B : Nat → Nat → Int) (t : Nat → Int) (n : Nat) (fv : Nat → Int) : Prop := (∀ i b e : Nat, i < n → B 19 i ≠ 0 → B 19 i = 1024 * (b : Int) + e → e ≤ 540 → Lst (fun x => ∃ c, CL B t e i b c ∧ x = 1024 * c + e) 2147483647 (fv i)) ∧ ∀ i, inI (fv i)
set_option maxHeartbeats 1000000 in
theorem q_valueFixed {B : Nat → Nat → Int} {t : Nat → Int} (hB : GB B) (hW : GW B) (ht : ∀ k, inI (t k)) {n : Nat} (hn : n ≤ 36) (hX : FXC B n) {now next fv : Nat → Int} {low high : Int} (nA xA : Nat) (hok : spOk now next low high) (hv : ∀ i, inI (fv i)) {sl : Int} (es : sl = n) :
    wp (m_X3_valueFixedParts (B 0) (B 1) (B 2) (B 3) (B 4) (B 8) (B 9) (B 12) (B 13) fv sl t (B 19) now nA next xA low high) (fun u => FV B t n u.1 ∧ spOk u.2.1 u.2.2.2.1 u.2.2.2.2.2.1 u.2.2.2.2.2.2) := by
  have hI : ∀ i, inI (B 19 i) := fun i => hB.1 19 i (by decide) (by decide) (by decide)
  unfold m_X3_valueFixedParts
  refine wp_bind (P := fun u : Nat × Int × (Nat → Int) × (Nat → Int) × Nat × (Nat → Int) × Nat × Int × Int => FV B t n u.2.2.1 ∧ spOk u.2.2.2.1 u.2.2.2.2.2.1 u.2.2.2.2.2.2.2.1 u.2.2.2.2.2.2.2.2) (wp_loop (fun k y => y.1 = (k : Int) ∧ FV B t k y.2.1 ∧ spOk y.2.2.1 y.2.2.2.2.1 y.2.2.2.2.2.2.1 y.2.2.2.2.2.2.2) n (by omega) ⟨rfl, ⟨fun i b e h => absurd h (by omega), hv⟩, hok⟩ ?_) ?_
  · intro k y hk hs
    obtain ⟨a1, ⟨a2, a3⟩, a4⟩ := hs
    unfold m_X3_valueFixedParts_2
    refine wp_gd (by omega) (wp_gd (by omega) (wp_if (fun c1 => ?_) (fun c1 => ?_)))
    · refine wp_end (by decide) ⟨?_, a4⟩
      rw [show n = k by omega]
      exact ⟨a2, a3⟩
    · rw [show y.1.toNat = k by omega]
      refine wp_gd (by omega) (wp_gd (hI _) (wp_if (fun c2 => ?_) (fun c2 => ?_)))
      · refine wp_vl (wp_go ⟨by omega, by show y.1 + 1 = _; omega, ⟨fun i b e h1 h2 h3 h4 => ?_, a3⟩, a4⟩)
        by_cases h : i = k
        · subst h
          exact absurd c2 h2
        · exact a2 i b e (by omega) h2 h3 h4
      · obtain ⟨b, e, f1, f2, f3, f4, f5⟩ := hX k (by omega) c2
        have em : B 19 k % 1024 = e := by omega
        have ed : B 19 k / 1024 = b := by omega
        rw [em, ed]
        refine wp_gd (by omega) (wp_vl (wp_gd (by omega) (wp_bind (q_costOf hB hW ht f4 (a := k) (b := b) (by omega) (by omega) _ _ a4 rfl a1 rfl) ?_)))
        rintro ⟨r, n1, n1A, n2, n2A, lo, hi⟩ ⟨w1, w2⟩
        have w1 : Lst (CL B t e k b) 268435456 r := w1
        have hr : r = 268435456 ∨ (-300 ≤ r ∧ r ≤ 3000) := by
          rcases w1 with ⟨z, _⟩ | ⟨_, z, _⟩
          · exact Or.inl z
          · have := CL_bd hB hW f4 z
            omega
        have hL : Lst (fun x => ∃ c, CL B t e k b c ∧ x = 1024 * c + e) 2147483647 (if r = 268435456 then 2147483647 else 1024 * r + e) := by
          refine Lst.map (fun v => 1024 * v + e) (fun x z h => ?_) (fun X => Iff.rfl) (fun x hx => ?_) w1
          · show 1024 * x + (e : Int) ≤ 1024 * z + e
            omega
          · have := CL_bd hB hW f4 hx
            show 1024 * x + (e : Int) < 2147483647
            omega
        have hfin : ∀ v : Int, v = (if r = 268435456 then 2147483647 else 1024 * r + e) → FV B t (k + 1) (uz y.2.1 k v) := by
          intro v hv2
          refine ⟨fun i b' e' h1 h2 h3 h4 => ?_, uz_inI a3 ?_⟩
          · by_cases h : i = k
            · subst h
              have hb : b' = b := by omega
              have he : e' = e := by omega
              subst hb
              subst he
              rw [uz_at, hv2]
              exact hL
            · rw [uz_ne _ _ h]
              exact a2 i b' e' (by omega) h2 h3 h4
          · rw [hv2]
            rcases hr with h | h
            · rw [if_pos h]
              decide
            · rw [if_neg (by omega)]
              omega
        refine wp_gd (by omega) (wp_if (fun c3 => ?_) (fun c3 => ?_))
        · exact wp_gd (by omega) (wp_vl (wp_vl (wp_go ⟨by omega, by show y.1 + 1 = _; omega, hfin _ (by rw [if_pos c3]), w2⟩)))
        · exact wp_gd (by omega) (wp_vl (wp_vl (wp_go ⟨by omega, by show y.1 + 1 = _; omega, hfin _ (by rw [if_neg c3]; omega), w2⟩)))
  · rintro ⟨t2, y1, f, n1, n1A, n2, n2A, lo, hi⟩ hu
    exact wp_some hu
set_option maxHeartbeats 1000000 in
theorem q_valueOf {B : Nat → Nat → Int} {t : Nat → Int} (hB : GB B) (hW : GW B) {n : Nat} (hn : n ≤ 36) (hX : FXC B n) {fv vals : Nat → Int} (hF : FV B t n fv) (hV : ∀ b, 1 ≤ b → b ≤ n → COL B t (B 18 0).toNat b vals) {a b k : Nat} (hab : a < b) (hbn : b ≤ n) (hk : k ≤ 8) {x1 x2 x3 : Int} (e1 : x1 = a) (e2 : x2 = b) (e3 : x3 = k) : wp (m_X3_valueOf x1 x2 x3 (B 6) fv (B 19) vals) (fun v => Lst (VV B t a b k) 2147483647 v) := by
  have hI : inI (B 19 a) := hB.1 19 a (by decide) (by decide) (by decide)
  have hW0 := hW.1
  have ea : x1.toNat = a := by omega
  unfold m_X3_valueOf
  rw [ea]
  refine wp_gd (by omega) (wp_vl (wp_gd hI (wp_if (fun c1 => ?_) (fun c1 => ?_))))
  · refine wp_eq (q_placeOf (by omega) (by omega)) ?_
    have hixl := ix_lt (a := a) (b := b) (k := k) (by omega) hab hk
    have hT : (((b * (b - 1) / 2 : Nat) : Int)) = (b : Int) * ((b : Int) - 1) / 2 := by
      rw [Int.natCast_ediv, Int.natCast_mul, Int.natCast_sub (by omega)]
      rfl
    have eix : (x2 * (x2 - 1) / 2 + x1) * 9 + x3 = ((ix a b k : Nat) : Int) := by
      rw [e2, ← hT]
      unfold ix
      omega
    rw [eix, Int.toNat_natCast]
    refine wp_gd (by omega) (wp_some ?_)
    refine (hV b (by omega) hbn a k hab hk).iff (fun x => ?_)
    constructor
    · rintro ⟨e, h1, h2, h3, h4⟩
      refine ⟨e, h1, ?_, h3, h4⟩
      rcases h1 with z | ⟨z1, z2, z3, _⟩
      · omega
      · omega
    · rintro ⟨e, h1, _, h3, h4⟩
      exact ⟨e, h1, Or.inl c1, h3, h4⟩
  · obtain ⟨b', e', f1, f2, f3, f4, f5⟩ := hX a (by omega) c1
    have em : B 19 a % 1024 = e' := by omega
    have ed : B 19 a / 1024 = b' := by omega
    rw [em, ed]
    have hkb := kd_bd hW f4
    have hnone : (b' ≠ b ∨ kd (B 6) e' ≠ k) → Lst (VV B t a b k) 2147483647 2147483647 := by
      intro h
      refine Lst.none ?_
      rintro x ⟨e, h1, h2, h3, h4⟩
      have he : e ≤ 540 := by rcases h1 with z | z <;> omega
      rcases h2 with h2 | h2
      · exact c1 h2
      · have hb : b' = b := by omega
        have hee : e' = e := by omega
        subst hee
        rcases h with h | h
        · exact h hb
        · exact h h3
    refine wp_gd (by omega) (wp_gd (by omega) (wp_if (fun c2 => ?_) (fun c2 => ?_)))
    · refine wp_eq (q_kindOf (by omega)) (wp_gd (by omega) (wp_gd (by omega) (wp_if (fun c3 => ?_) (fun c3 => ?_))))
      · unfold m_X3_valueOf_67
        refine wp_gd (by decide) (wp_if (fun z => absurd z (by decide)) (fun _ => ?_))
        rw [ea]
        refine wp_gd (by omega) (wp_some ?_)
        have hb : b' = b := by omega
        subst hb
        refine (hF.1 a b' e' (by omega) c1 f1 f5).iff (fun x => ?_)
        constructor
        · rintro ⟨e, h1, h2, h3, h4⟩
          have he : e ≤ 540 := by rcases h1 with z | z <;> omega
          have hee : e = e' := by
            rcases h2 with h2 | h2
            · exact absurd h2 c1
            · omega
          subst hee
          exact h4
        · intro h4
          exact ⟨e', f4, Or.inr f1, by omega, h4⟩
      · unfold m_X3_valueOf_66 m_X3_valueOf_67
        refine wp_gd (by decide) (wp_if (fun _ => wp_some (hnone (Or.inr (by omega)))) (fun z => absurd rfl z))
    · unfold m_X3_valueOf_66 m_X3_valueOf_67
      refine wp_gd (by decide) (wp_if (fun _ => wp_some (hnone (Or.inl (by omega)))) (fun z => absurd rfl z))
theorem q_partsAt {B : Nat → Nat → Int} (hB : GB B) {n p : Nat} (hn : n ≤ 36) (hp : p ≤ n) {x sl : Int} (e : x = p) (es : sl = n) : wp (m_X4_partsAt x sl (B 17)) (fun v => (v = 1 ∧ (p = 0 ∨ p = n ∨ B 17 p ≠ 2)) ∨ (v = 0 ∧ ¬ (p = 0 ∨ p = n ∨ B 17 p ≠ 2))) := by
  unfold m_X4_partsAt
  refine wp_gd (by omega) (wp_if (fun c1 => wp_some (Or.inl ⟨rfl, Or.inl (by omega)⟩)) (fun c1 => ?_))
  refine wp_gd (by omega) (wp_if (fun c2 => wp_some (Or.inl ⟨rfl, Or.inr (Or.inl (by omega))⟩)) (fun c2 => ?_))
  rw [show x.toNat = p by omega]
  refine wp_gd (by omega) (wp_gd (hB.1 17 _ (by decide) (by decide) (by decide)) (wp_if (fun c3 => ?_) (fun c3 => wp_some (Or.inl ⟨rfl, Or.inr (Or.inr c3)⟩))))
  refine wp_some (Or.inr ⟨rfl, ?_⟩)
  rintro (h | h | h)
  · omega
  · omega
  · exact h c3
theorem q_reachFrom {B : Nat → Nat → Int} (hB : GB B) {n a : Nat} (hn : n ≤ 36) (ha : a < n) {x sl : Int} (e : x = a) (es : sl = n) : wp (m_X4_reachFrom x sl (B 17)) (fun v => ∃ r : Nat, v = r ∧ a < r ∧ r ≤ n ∧ (∀ p, a < p → p < r → B 17 p ≠ 1) ∧ (r = n ∨ B 17 r = 1)) := by
  unfold m_X4_reachFrom
  refine wp_vl (wp_bind (P := fun u : Nat × Int => ∃ r : Nat, u.2 = r ∧ a < r ∧ r ≤ n ∧ (∀ p, a < p → p < r → B 17 p ≠ 1) ∧ (r = n ∨ B 17 r = 1)) (wp_loop (fun k y => y = ((a + 1 + k : Nat) : Int) ∧ a + 1 + k ≤ n ∧ ∀ p, a < p → p < a + 1 + k → B 17 p ≠ 1) 36 (by omega) ⟨by omega, by omega, fun p h1 h2 => absurd h2 (by omega)⟩ ?_) ?_)
  · intro k y hk hs
    obtain ⟨a1, a2, a3⟩ := hs
    unfold m_X4_reachFrom_4
    refine wp_gd (by omega) (wp_gd (by omega) (wp_if (fun c1 => ?_) (fun c1 => ?_)))
    · exact wp_end (by decide) ⟨a + 1 + k, a1, by omega, by omega, a3, Or.inl (by omega)⟩
    · rw [show y.toNat = a + 1 + k by omega]
      refine wp_gd (by omega) (wp_gd (hB.1 17 _ (by decide) (by decide) (by decide)) (wp_if (fun c2 => ?_) (fun c2 => ?_)))
      · exact wp_end (by decide) ⟨a + 1 + k, a1, by omega, by omega, a3, Or.inr c2⟩
      · refine wp_vl (wp_go ⟨by omega, by show y + 1 = _; omega, by omega, fun p h1 h2 => ?_⟩)
        by_cases h : p = a + 1 + k
        · rw [h]
          exact c2
        · exact a3 p h1 (by omega)
  · rintro ⟨t4, y⟩ hu
    exact wp_some hu
end
section
/-! heads and rests -/
/-- a part of a kind with its rest, from a place -/
def HS (B : Nat → Nat → Int) (t : Nat → Int) (n a : Nat) (rests : Nat → Int) (k : Nat) (x : Int) : Prop := ∃ (e b : Nat) (c : Int), PC B t n a b e c ∧ kd (B 6) e = k ∧ rests (9 * b + k) < 268435456 ∧ x = c + rests (9 * b + k)
/-- what the loop has seen: ends below b, and of b the kinds below k -/
def HSp (B : Nat → Nat → Int) (t : Nat → Int) (n a : Nat) (rests : Nat → Int) (cb ck k : Nat) (x : Int) : Prop := ∃ (e b : Nat) (c : Int), (b < cb ∨ (b = cb ∧ k < ck)) ∧ PC B t n a b e c ∧ kd (B 6) e = k ∧ rests (9 * b + k) < 268435456 ∧ x = c + rests (9 * b + k)
def RBc (n lo : Nat) (rests : Nat → Int) : Prop := (∀ (b k : Nat), lo ≤ b → b ≤ n → k ≤ 8 → (rests (9 * b + k) = 268435456 ∨ (-(4000 * ((n : Int) - b)) ≤ rests (9 * b + k) ∧ rests (9 * b + k) ≤ 4000 * ((n : Int) - b)))) ∧ ∀ i, inI (rests i)
def HI (B : Nat → Nat → Int) (t : Nat → Int) (n a : Nat) (rests h0 : Nat → Int) (cb ck : Nat) (heads : Nat → Int) : Prop := (∀ k, k ≤ 8 → Lst (HSp B t n a rests cb ck k) 268435456 (heads (9 * a + k))) ∧ (∀ i, 9 * (a + 1) ≤ i → heads i = h0 i) ∧ ∀ i, inI (heads i)
theorem HI.same {B : Nat → Nat → Int} {t : Nat → Int} {n a : Nat} {rests h0 : Nat → Int} {cb ck cb' ck' : Nat} {heads : Nat → Int} (h : HI B t n a rests h0 cb ck heads) (hS : ∀ k, k ≤ 8 → ∀ x, HSp B t n a rests cb' ck' k x ↔ HSp B t n a rests cb ck k x) : HI B t n a rests h0 cb' ck' heads := ⟨fun k hk => (h.1 k hk).iff (hS k hk), h.2⟩
/-- the least value of a stretch's kind: the least cost of its parts -/
theorem VV_least {B : Nat → Nat → Int} {t : Nat → Int} {n a b k : Nat} (hab : a < b) (hbn : b ≤ n) (hl : LT B n a b) {v : Int} (h : Lst (VV B t a b k) 2147483647 v) (hv : v ≠ 2147483647) : ∃ e : Nat, PC B t n a b e (v / 1024) ∧ (e : Int) = v % 1024 ∧ kd (B 6) e = k ∧ ∀ (e' : Nat) (c' : Int), PC B t n a b e' c' → kd (B 6) e' = k → v / 1024 ≤ c' ∧ (v / 1024 = c' → v % 1024 ≤ e') := by
  obtain ⟨e, h1, h2, h3, c, h4, h5⟩ := h.mem hv
  have he : e ≤ 540 := by rcases h1 with z | z <;> omega
  have ec : v / 1024 = c := by omega
  have ee : v % 1024 = e := by omega
  have hall : ∀ (e' : Nat) (c' : Int), PC B t n a b e' c' → kd (B 6) e' = k → v / 1024 ≤ c' ∧ (v / 1024 = c' → v % 1024 ≤ e') := by
    intro e' c' hp hk'
    have he' : e' ≤ 540 := by rcases hp.2.1 with z | z <;> omega
    have := (h.le ⟨e', hp.2.1, hp.2.2.1.2, hk', c', hp.2.2.2.1, rfl⟩).1
    omega
  refine ⟨e, ⟨⟨hab, hbn⟩, h1, ⟨hl, h2⟩, by rw [ec]; exact h4, fun x hx => ?_⟩, by omega, h3, hall⟩
  have := (h.le ⟨e, h1, h2, h3, x, hx, rfl⟩).1
  omega
theorem VV_none {B : Nat → Nat → Int} {t : Nat → Int} {n a b k : Nat} (h : Lst (VV B t a b k) 2147483647 2147483647) {e : Nat} {c : Int} (hp : PC B t n a b e c) (hk : kd (B 6) e = k) : False := h.no _ ⟨e, hp.2.1, hp.2.2.1.2, hk, c, hp.2.2.2.1, rfl⟩
theorem PC_LT {B : Nat → Nat → Int} {t : Nat → Int} {n a b : Nat} {e c : Int} (h : PC B t n a b e c) : LT B n a b := h.2.2.1.1
set_option maxHeartbeats 2000000 in
theorem q_fillHeads {B : Nat → Nat → Int} {t : Nat → Int} (hB : GB B) (hW : GW B) {n : Nat} (hn : n ≤ 36) (hX : FXC B n) {fv vals : Nat → Int} (hF : FV B t n fv) (hV : ∀ b, 1 ≤ b → b ≤ n → COL B t (B 18 0).toNat b vals) {a : Nat} (ha : a < n) {heads rests : Nat → Int} (hR : RBc n (a + 1) rests) (hH : ∀ i, inI (heads i)) {x1 sl : Int} (e1 : x1 = a) (es : sl = n) :
    wp (m_X3_fillHeads x1 (B 6) fv heads rests sl (B 17) (B 19) vals) (fun u => (∀ k, k ≤ 8 → Lst (HS B t n a rests k) 268435456 (u (9 * a + k))) ∧ (∀ i, 9 * (a + 1) ≤ i → u i = heads i) ∧ ∀ i, inI (u i)) := by
  unfold m_X3_fillHeads
  refine wp_eq (q_fillRange (by omega) (by omega) (by omega) ⟨by decide, by omega⟩) ?_
  rw [show (x1 * 9).toNat = 9 * a by omega, show ((x1 + 1) * 9).toNat = 9 * (a + 1) by omega]
  have hI0 : ∀ i, inI (fz heads (9 * a) (9 * (a + 1)) 268435456 i) := fz_inI hH (by decide)
  have hout : ∀ i, 9 * (a + 1) ≤ i → fz heads (9 * a) (9 * (a + 1)) 268435456 i = heads i := fun i hi => fz_out _ _ (by omega)
  have hin : ∀ k, k ≤ 8 → fz heads (9 * a) (9 * (a + 1)) 268435456 (9 * a + k) = 268435456 := fun k hk => fz_in _ _ (by omega)
  refine wp_bind (q_partsAt hB hn (p := a) (by omega) e1 es) ?_
  intro r hr
  refine wp_gd (by omega) (wp_if (fun c1 => ?_) (fun c1 => ?_))
  · have hno : ¬ (a = 0 ∨ a = n ∨ B 17 a ≠ 2) := by
      rcases hr with ⟨z, _⟩ | ⟨_, z⟩
      · omega
      · exact z
    refine wp_some ⟨fun k hk => ?_, hout, hI0⟩
    rw [hin k hk]
    refine Lst.none ?_
    rintro x ⟨e, b, c, hp, _⟩
    rcases (PC_LT hp).1 with h | h
    · exact hno (Or.inl h)
    · exact hno (Or.inr (Or.inr h))
  · have hpa : a = 0 ∨ B 17 a ≠ 2 := by
      rcases hr with ⟨_, z⟩ | ⟨z, _⟩
      · rcases z with z | z | z
        · exact Or.inl z
        · omega
        · exact Or.inr z
      · omega
    refine wp_bind (q_reachFrom hB hn ha e1 es) ?_
    rintro v ⟨R, rfl, r1, r2, r3, r4⟩
    have hreach : ∀ b, a < b → b ≤ n → LT B n a b → b ≤ R := by
      intro b hab hbn hl
      by_cases h : b ≤ R
      · exact h
      · exfalso
        rcases r4 with r4 | r4
        · omega
        · exact hl.2.2 R r1 (by omega) r4
    refine wp_vl (wp_bind (P := fun u : Nat × Int × (Nat → Int) => HI B t n a rests heads (R + 1) 0 u.2.2) (wp_loop (fun j y => y.1 = ((a + 1 + j : Nat) : Int) ∧ HI B t n a rests heads (a + 1 + j) 0 y.2) (R - a) (by omega) ⟨by show x1 + 1 = _; omega, fun k hk => ?_, hout, hI0⟩ ?_) ?_)
    · show Lst _ 268435456 (fz heads (9 * a) (9 * (a + 1)) 268435456 (9 * a + k))
      rw [hin k hk]
      refine Lst.none ?_
      rintro x ⟨e, b, c, h0, hp, _⟩
      have := hp.1.1
      omega
    · intro j y hj hs
      obtain ⟨a1, a2⟩ := hs
      unfold m_X3_fillHeads_44
      refine wp_gd (by omega) (wp_gd (by omega) (wp_if (fun c2 => ?_) (fun c2 => ?_)))
      · refine wp_end (by decide) ?_
        show HI B t n a rests heads (R + 1) 0 y.2
        rw [show R + 1 = a + 1 + j by omega]
        exact a2
      · obtain ⟨b, eb⟩ : ∃ b, b = a + 1 + j := ⟨_, rfl⟩
        rw [← eb] at a1 a2
        have hbR : b ≤ R := by omega
        refine wp_bind (P := fun u : Nat × Int × (Nat → Int) => HI B t n a rests heads (b + 1) 0 u.2.2) (wp_loop (fun k d => d.1 = (k : Int) ∧ HI B t n a rests heads b k d.2) 9 (by omega) ⟨rfl, a2⟩ ?_) ?_
        · intro k d hk hsd
          obtain ⟨d1, d2⟩ := hsd
          unfold m_X3_fillHeads_52
          refine wp_gd (by omega) (wp_if (fun c3 => ?_) (fun c3 => ?_))
          · refine wp_end (by decide) (d2.same (fun k' hk' x => ?_))
            constructor
            · rintro ⟨e, b', c, h0, h1⟩
              exact ⟨e, b', c, by omega, h1⟩
            · rintro ⟨e, b', c, h0, h1⟩
              exact ⟨e, b', c, by omega, h1⟩
          · refine wp_bind (q_partsAt hB hn (p := b) (by omega) a1 es) ?_
            intro r5 hr5
            refine wp_gd (by omega) (wp_if (fun c4 => ?_) (fun c4 => ?_))
            · have hno : ¬ (b = 0 ∨ b = n ∨ B 17 b ≠ 2) := by
                rcases hr5 with ⟨z, _⟩ | ⟨_, z⟩
                · omega
                · exact z
              refine wp_end (by decide) (d2.same (fun k' hk' x => ?_))
              constructor
              · rintro ⟨e, b', c, h0, h1, h2⟩
                have hb : b' ≠ b := by
                  intro z
                  subst z
                  rcases (PC_LT h1).2.1 with h | h
                  · exact hno (Or.inr (Or.inl h))
                  · exact hno (Or.inr (Or.inr h))
                exact ⟨e, b', c, by omega, h1, h2⟩
              · rintro ⟨e, b', c, h0, h1, h2⟩
                have hb : b' ≠ b := by
                  intro z
                  subst z
                  rcases (PC_LT h1).2.1 with h | h
                  · exact hno (Or.inr (Or.inl h))
                  · exact hno (Or.inr (Or.inr h))
                exact ⟨e, b', c, by omega, h1, h2⟩
            · have hlt : LT B n a b := by
                refine ⟨hpa, ?_, fun p h1 h2 => r3 p h1 (by omega)⟩
                rcases hr5 with ⟨_, z⟩ | ⟨z, _⟩
                · rcases z with z | z | z
                  · omega
                  · exact Or.inl z
                  · exact Or.inr z
                · omega
              have hnext : (∀ x, ¬ ∃ (e : Nat) (c : Int), PC B t n a b e c ∧ kd (B 6) e = k ∧ rests (9 * b + k) < 268435456 ∧ x = c + rests (9 * b + k)) → HI B t n a rests heads b (k + 1) d.2 := by
                intro hno
                refine d2.same (fun k' hk' x => ?_)
                constructor
                · rintro ⟨e, b', c, h0, h1, h2, h3, h4⟩
                  refine ⟨e, b', c, ?_, h1, h2, h3, h4⟩
                  by_cases hz : b' = b ∧ k' = k
                  · obtain ⟨rfl, rfl⟩ := hz
                    exact absurd ⟨e, c, h1, h2, h3, h4⟩ (hno x)
                  · omega
                · rintro ⟨e, b', c, h0, h1⟩
                  exact ⟨e, b', c, by omega, h1⟩
              refine wp_bind (q_valueOf hB hW hn hX hF hV (a := a) (b := b) (k := k) (by omega) (by omega) (by omega) e1 a1 d1) ?_
              intro v hv
              have hvb : v = 2147483647 ∨ (-400000 ≤ v ∧ v ≤ 4000000) := by
                by_cases h : v = 2147483647
                · exact Or.inl h
                · exact Or.inr (VV_bd hB hW (hv.mem h))
              have er : (y.1 * 9 + d.1).toNat = 9 * b + k := by omega
              rw [er]
              have hrb := hR.1 b k (by omega) (by omega) (by omega)
              refine wp_gd (by omega) (wp_vl (wp_gd (by omega) (wp_if (fun c5 => ?_) (fun c5 => ?_))))
              · refine wp_vl (wp_go ⟨by omega, by show d.1 + 1 = _; omega, hnext ?_⟩)
                rintro x ⟨e, c, h1, h2, _⟩
                rw [c5] at hv
                exact VV_none hv h1 h2
              · refine wp_gd (hR.2 _) (wp_if (fun c6 => ?_) (fun c6 => ?_))
                · refine wp_vl (wp_go ⟨by omega, by show d.1 + 1 = _; omega, hnext ?_⟩)
                  rintro x ⟨e, c, h1, h2, h3, _⟩
                  omega
                · obtain ⟨e0, p1, p2, p3, p4⟩ := VV_least (n := n) (by omega) (by omega) hlt hv c5
                  have eh : (x1 * 9 + d.1).toNat = 9 * a + k := by omega
                  have hhI := d2.2.2 (9 * a + k)
                  refine wp_vl ?_
                  rw [eh]
                  refine wp_gd (by omega) (wp_gd hhI (wp_gd (by omega) (wp_gd (by omega) (wp_vl (wp_vl (wp_go ⟨by omega, by show d.1 + 1 = _; omega, fun k' hk' => ?_, fun i hi => ?_, uz_inI d2.2.2 (by omega)⟩))))))
                  · show Lst _ 268435456 (uz d.2 (9 * a + k) _ (9 * a + k'))
                    by_cases hkk : k' = k
                    · subst hkk
                      rw [uz_at]
                      refine Lst.dom ((d2.1 k' hk').push (S' := fun x => HSp B t n a rests b k' k' x ∨ x = v / 1024 + rests (9 * b + k')) (by omega) (fun x => Iff.rfl)) ?_ ?_
                      · rintro x (⟨e, b', c, h0, h1⟩ | rfl)
                        · exact ⟨e, b', c, by omega, h1⟩
                        · exact ⟨e0, b, v / 1024, by omega, p1, p3, by omega, rfl⟩
                      · rintro x ⟨e, b', c, h0, h1, h2, h3, h4⟩
                        by_cases hbb : b' = b
                        · subst hbb
                          have := (p4 e c h1 h2).1
                          exact ⟨v / 1024 + rests (9 * b' + k'), Or.inr rfl, by omega⟩
                        · exact ⟨x, Or.inl ⟨e, b', c, by omega, h1, h2, h3, h4⟩, Int.le_refl _⟩
                    · rw [uz_ne _ _ (by omega)]
                      refine (d2.1 k' hk').iff (fun x => ?_)
                      constructor
                      · rintro ⟨e, b', c, h0, h1⟩
                        exact ⟨e, b', c, by omega, h1⟩
                      · rintro ⟨e, b', c, h0, h1⟩
                        exact ⟨e, b', c, by omega, h1⟩
                  · show uz d.2 (9 * a + k) _ i = _
                    rw [uz_ne _ _ (by omega)]
                    exact d2.2.1 i hi
        · rintro ⟨t52, y4, hd⟩ hu
          refine wp_vl (wp_go ⟨by omega, by show y.1 + 1 = _; omega, ?_⟩)
          rw [show a + 1 + (j + 1) = b + 1 by omega]
          exact hu
    · rintro ⟨t44, y3, hd⟩ ⟨u1, u2, u3⟩
      refine wp_some ⟨fun k hk => ?_, u2, u3⟩
      refine (u1 k hk).iff (fun x => ?_)
      constructor
      · rintro ⟨e, b, c, h1, h2⟩
        have := hreach b h1.1.1 h1.1.2 (PC_LT h1)
        exact ⟨e, b, c, by omega, h1, h2⟩
      · rintro ⟨e, b, c, _, h1⟩
        exact ⟨e, b, c, h1⟩
end
section
/-! the class's rests, whole -/
def SCo (B : Nat → Nat → Int) (sc : Nat → Int) : Prop := ∀ k j : Nat, k ≤ 8 → j ≤ 8 → sc (9 * k + j) = stp B k j
abbrev Rc (rests : Nat → Int) : Nat → Nat → Int := fun b k => rests (9 * b + k)
theorem HS_via {B : Nat → Nat → Int} {t : Nat → Int} (hW : GW B) {n a : Nat} {rests : Nat → Int} {k : Int} {x : Int} : (∃ e b, viaG B t n a (Rc rests) 268435456 k e b x) ↔ ∃ (j : Nat) (y : Int), j ≤ 8 ∧ HS B t n a rests j y ∧ x = y + stp B k j := by
  constructor
  · rintro ⟨e, b, c, h1, h2, h3⟩
    have hk := kd_bd hW h1.2.1
    have ek : (((kd (B 6) e).toNat : Nat) : Int) = kd (B 6) e := by omega
    refine ⟨(kd (B 6) e).toNat, c + rests (9 * b + (kd (B 6) e).toNat), by omega, ⟨e, b, c, h1, ek.symm, h2, rfl⟩, ?_⟩
    rw [ek]
    exact h3
  · rintro ⟨j, y, hj, ⟨e, b, c, h1, h2, h3, h4⟩, h5⟩
    refine ⟨e, b, c, h1, ?_, ?_⟩
    · show rests (9 * b + (kd (B 6) e).toNat) < 268435456
      rw [show (kd (B 6) e).toNat = j by omega]
      exact h3
    · show x = c + rests (9 * b + (kd (B 6) e).toNat) + stp B k (kd (B 6) e)
      rw [show (kd (B 6) e).toNat = j by omega, h2, h5, h4]
theorem HS_bd {B : Nat → Nat → Int} {t : Nat → Int} (hB : GB B) (hW : GW B) {n a : Nat} {rests : Nat → Int} (hR : RBc n (a + 1) rests) {k : Nat} (hk : k ≤ 8) {x : Int} (h : HS B t n a rests k x) : -(4000 * ((n : Int) - a)) + 3000 ≤ x ∧ x ≤ 4000 * ((n : Int) - a) - 1000 := by
  obtain ⟨e, b, c, h1, h2, h3, h4⟩ := h
  have := CL_bd hB hW h1.2.1 h1.2.2.2.1
  have h5 := h1.1
  have := hR.1 b k (by omega) (by omega) hk
  omega
set_option maxHeartbeats 1000000 in
theorem q_fillRests {B : Nat → Nat → Int} {t : Nat → Int} (hB : GB B) (hW : GW B) (hS : GS B) {n a : Nat} (hn : n ≤ 36) (ha : a < n) {heads rests sc : Nat → Int} (hsc : SCo B sc) (hR : RBc n (a + 1) rests) (hH : ∀ i, inI (heads i)) (hL : ∀ k, k ≤ 8 → Lst (HS B t n a rests k) 268435456 (heads (9 * a + k))) {x1 : Int} (e1 : x1 = a) :
    wp (m_X3_fillRests x1 sc heads rests) (fun u => (∀ k : Nat, k ≤ 8 → Lst (fun x => ∃ e b, viaG B t n a (Rc rests) 268435456 k e b x) 268435456 (u (9 * a + k))) ∧ (∀ i, (i < 9 * a ∨ 9 * (a + 1) ≤ i) → u i = rests i) ∧ RBc n a u) := by
  have hhd : ∀ k, k ≤ 8 → heads (9 * a + k) < 268435456 → -(4000 * ((n : Int) - a)) + 3000 ≤ heads (9 * a + k) ∧ heads (9 * a + k) ≤ 4000 * ((n : Int) - a) - 1000 := fun k hk h => HS_bd hB hW hR hk ((hL k hk).mem (by omega))
  have hone : ∀ (k : Nat) (x2 : Int), k ≤ 8 → x2 = k → ∀ rr : Nat → Int, wp (zloop (fun y => m_X3_fillRests_14 x1 x2 y.1 y.2 sc heads rr) FU (268435456, 0)) (fun u => Lst (fun x => ∃ e b, viaG B t n a (Rc rests) 268435456 k e b x) 268435456 u.2.1 ∧ (u.2.1 = 268435456 ∨ (-(4000 * ((n : Int) - a)) ≤ u.2.1 ∧ u.2.1 ≤ 4000 * ((n : Int) - a)))) := by
    intro k x2 hk e2 rr
    refine wp_loop (fun j y => y.2 = (j : Int) ∧ Lst (fun x => ∃ (j' : Nat), j' < j ∧ heads (9 * a + j') < 268435456 ∧ x = heads (9 * a + j') + stp B k j') 268435456 y.1 ∧ (y.1 = 268435456 ∨ (-(4000 * ((n : Int) - a)) ≤ y.1 ∧ y.1 ≤ 4000 * ((n : Int) - a)))) 9 (by omega) ⟨rfl, Lst.none (fun x ⟨j', h, _⟩ => absurd h (by omega)), Or.inl rfl⟩ ?_
    intro j y hj hs
    obtain ⟨a1, a2, a3⟩ := hs
    unfold m_X3_fillRests_14
    refine wp_gd (by omega) (wp_if (fun c1 => ?_) (fun c1 => ?_))
    · refine wp_end (by decide) ⟨?_, a3⟩
      refine a2.dom ?_ ?_
      · rintro x ⟨j', h1, h2, h3⟩
        exact (HS_via hW).mpr ⟨j', _, by omega, (hL j' (by omega)).mem (by omega), h3⟩
      · rintro x hx
        obtain ⟨j', z, h1, h2, h3⟩ := (HS_via hW).mp hx
        have h4 := (hL j' h1).le h2
        exact ⟨heads (9 * a + j') + stp B k j', ⟨j', by omega, h4.2, rfl⟩, by omega⟩
    · have eh : (x1 * 9 + y.2).toNat = 9 * a + j := by omega
      rw [eh]
      refine wp_gd (by omega) (wp_vl (wp_gd (hH _) (wp_if (fun c2 => ?_) (fun c2 => ?_))))
      · refine wp_vl (wp_go ⟨by omega, by show y.2 + 1 = _; omega, a2.iff (fun x => ?_), a3⟩)
        constructor
        · rintro ⟨j', h1, h2, h3⟩
          have : j' ≠ j := fun z => by rw [z] at h2; omega
          exact ⟨j', by omega, h2, h3⟩
        · rintro ⟨j', h1, h2⟩
          exact ⟨j', by omega, h2⟩
      · have et : (x2 * 9 + y.2).toNat = 9 * k + j := by omega
        have hst := stp_bd hS (k := (k : Int)) (j := (j : Int)) (by omega) (by omega)
        have hh := hhd j (by omega) (by omega)
        rw [et, hsc k j hk (by omega)]
        refine wp_gd (by omega) (wp_gd (by omega) (wp_gd (by omega) (wp_vl (wp_vl (wp_go ⟨by omega, by show y.2 + 1 = _; omega, ?_, ?_⟩)))))
        · refine a2.push (by omega) (fun x => ?_)
          constructor
          · rintro ⟨j', h1, h2, h3⟩
            by_cases hjj : j' = j
            · subst hjj
              exact Or.inr h3
            · exact Or.inl ⟨j', by omega, h2, h3⟩
          · rintro (⟨j', h1, h2⟩ | rfl)
            · exact ⟨j', by omega, h2⟩
            · exact ⟨j, by omega, by omega, rfl⟩
        · show min y.1 (heads (9 * a + j) + stp B k j) = 268435456 ∨ (-(4000 * ((n : Int) - a)) ≤ min y.1 (heads (9 * a + j) + stp B k j) ∧ min y.1 (heads (9 * a + j) + stp B k j) ≤ 4000 * ((n : Int) - a))
          omega
  unfold m_X3_fillRests
  refine wp_bind (P := fun u : Nat × Int × (Nat → Int) => (∀ k : Nat, k ≤ 8 → Lst (fun x => ∃ e b, viaG B t n a (Rc rests) 268435456 k e b x) 268435456 (u.2.2 (9 * a + k))) ∧ (∀ i, (i < 9 * a ∨ 9 * (a + 1) ≤ i) → u.2.2 i = rests i) ∧ RBc n a u.2.2) (wp_loop (fun k y => y.1 = (k : Int) ∧ (∀ k' : Nat, k' < k → k' ≤ 8 → Lst (fun x => ∃ e b, viaG B t n a (Rc rests) 268435456 k' e b x) 268435456 (y.2 (9 * a + k')) ∧ (y.2 (9 * a + k') = 268435456 ∨ (-(4000 * ((n : Int) - a)) ≤ y.2 (9 * a + k') ∧ y.2 (9 * a + k') ≤ 4000 * ((n : Int) - a)))) ∧ (∀ i, (i < 9 * a ∨ 9 * (a + 1) ≤ i) → y.2 i = rests i) ∧ ∀ i, inI (y.2 i)) 9 (by omega) ⟨rfl, fun k' h => absurd h (by omega), fun i _ => rfl, hR.2⟩ ?_) ?_
  · intro k y hk hs
    obtain ⟨a1, a2, a3, a4⟩ := hs
    unfold m_X3_fillRests_2
    refine wp_gd (by omega) (wp_if (fun c1 => ?_) (fun c1 => ?_))
    · refine wp_end (by decide) ⟨fun k' hk' => (a2 k' (by omega) hk').1, a3, fun b k' h1 h2 h3 => ?_, a4⟩
      by_cases hb : b = a
      · subst hb
        exact (a2 k' (by omega) h3).2
      · show y.2 (9 * b + k') = 268435456 ∨ _
        rw [a3 _ (by omega)]
        exact hR.1 b k' (by omega) h2 h3
    · refine wp_bind (hone k y.1 (by omega) a1 y.2) ?_
      rintro ⟨t14, y3, y4⟩ ⟨u1, u2⟩
      have u1 : Lst (fun x => ∃ e b, viaG B t n a (Rc rests) 268435456 k e b x) 268435456 y3 := u1
      have u2 : y3 = 268435456 ∨ (-(4000 * ((n : Int) - a)) ≤ y3 ∧ y3 ≤ 4000 * ((n : Int) - a)) := u2
      have eh : (x1 * 9 + y.1).toNat = 9 * a + k := by omega
      rw [eh]
      refine wp_gd (by omega) (wp_vl (wp_vl (wp_go ⟨by omega, by show y.1 + 1 = _; omega, fun k' h1 h2 => ?_, fun i hi => ?_, uz_inI a4 (by omega)⟩)))
      · show Lst _ 268435456 (uz y.2 (9 * a + k) y3 (9 * a + k')) ∧ (uz y.2 (9 * a + k) y3 (9 * a + k') = 268435456 ∨ (-(4000 * ((n : Int) - a)) ≤ uz y.2 (9 * a + k) y3 (9 * a + k') ∧ uz y.2 (9 * a + k) y3 (9 * a + k') ≤ 4000 * ((n : Int) - a)))
        by_cases hkk : k' = k
        · subst hkk
          rw [uz_at]
          exact ⟨u1, u2⟩
        · rw [uz_ne _ _ (by omega)]
          exact a2 k' (by omega) h2
      · show uz y.2 (9 * a + k) y3 i = _
        rw [uz_ne _ _ (by omega)]
        exact a3 i hi
  · rintro ⟨t2, y2, rr⟩ hu
    exact wp_some hu
/-- the class's rests from lo on are right -/
def BRc (B : Nat → Nat → Int) (t : Nat → Int) (n lo : Nat) (rests : Nat → Int) : Prop := (∀ k : Nat, k ≤ 8 → rests (9 * n + k) = 0) ∧ RBc n lo rests ∧ ∀ a : Nat, lo ≤ a → a < n → ∀ k : Nat, k ≤ 8 → Lst (fun x => ∃ e b, viaG B t n a (Rc rests) 268435456 k e b x) 268435456 (rests (9 * a + k))
theorem viaG_congr {B : Nat → Nat → Int} {t : Nat → Int} {n a : Nat} {R R' : Nat → Nat → Int} {far far' : Int} (hW : GW B) (h : ∀ b k : Nat, a < b → b ≤ n → k ≤ 8 → ((R b k = far ∧ R' b k = far') ∨ (R b k = R' b k ∧ R b k < far ∧ R' b k < far'))) {k : Int} {e b : Nat} {x : Int} : viaG B t n a R far k e b x ↔ viaG B t n a R' far' k e b x := by
  constructor
  · rintro ⟨c, h1, h2, h3⟩
    have hk := kd_bd hW h1.2.1
    rcases h b (kd (B 6) e).toNat h1.1.1 h1.1.2 (by omega) with ⟨z, _⟩ | ⟨z1, z2, z3⟩
    · omega
    · exact ⟨c, h1, z3, by rw [← z1]; exact h3⟩
  · rintro ⟨c, h1, h2, h3⟩
    have hk := kd_bd hW h1.2.1
    rcases h b (kd (B 6) e).toNat h1.1.1 h1.1.2 (by omega) with ⟨_, z⟩ | ⟨z1, z2, z3⟩
    · omega
    · exact ⟨c, h1, z2, by rw [z1]; exact h3⟩
/-- the class's rests and the reference's are the same -/
theorem rests_agree {B : Nat → Nat → Int} {t : Nat → Int} (hW : GW B) {n : Nat} {rests rest : Nat → Int} (h1 : BRc B t n 0 rests) (h2 : BR B t n 0 rest) : ∀ m a : Nat, a + m = n → ∀ k : Nat, k ≤ 8 → (rests (9 * a + k) = 268435456 ∧ rest (10 * a + k) = 134217728) ∨ (rests (9 * a + k) = rest (10 * a + k) ∧ rests (9 * a + k) < 268435456 ∧ rest (10 * a + k) < 134217728) := by
  intro m
  induction m using Nat.strongRecOn with
  | ind m ih =>
    intro a ham k hk
    by_cases hz : m = 0
    · have ha : a = n := by omega
      subst ha
      right
      rw [h1.1 k hk, h2.1 k (by omega)]
      decide
    · have hl1 := h1.2.2 a (Nat.zero_le _) (by omega) k hk
      have hl2 := h2.2.2 a (Nat.zero_le _) (by omega) k (by omega)
      have hl3 : Lst (fun x => ∃ e b, viaG B t n a (Rc rests) 268435456 k e b x) 134217728 (rest (10 * a + k)) := by
        refine hl2.iff (fun x => ?_)
        have key : ∀ b k' : Nat, a < b → b ≤ n → k' ≤ 8 → ((Rc rests b k' = 268435456 ∧ rest (10 * b + k') = 134217728) ∨ (Rc rests b k' = rest (10 * b + k') ∧ Rc rests b k' < 268435456 ∧ rest (10 * b + k') < 134217728)) := fun b k' g1 g2 g3 => ih (n - b) (by omega) b (by omega) k' g3
        constructor
        · rintro ⟨e, b, h⟩
          exact ⟨e, b, (viaG_congr (R' := fun b k => rest (10 * b + k)) hW key).mp h⟩
        · rintro ⟨e, b, h⟩
          exact ⟨e, b, (viaG_congr (R' := fun b k => rest (10 * b + k)) hW key).mpr h⟩
      rcases hl1.two hl3 with h | ⟨g1, g2, g3, _⟩
      · exact Or.inl h
      · exact Or.inr ⟨g1, g2, g3⟩
end
section
/-! the class's reading followed -/
def FMG (B : Nat → Nat → Int) (t : Nat → Int) (n a : Nat) (R : Nat → Nat → Int) (far : Int) (k wanted : Int) (e b : Nat) : Prop := viaG B t n a R far k e b wanted ∧ ∀ e' b', bfr e b e' b' → ¬ viaG B t n a R far k e' b' wanted
theorem q_leastHead {B : Nat → Nat → Int} {t : Nat → Int} (hB : GB B) (hW : GW B) {n : Nat} (hn : n ≤ 36) (h0 : 0 < n) {heads rests : Nat → Int} (hR : RBc n 1 rests) (hH : ∀ i, inI (heads i)) (hL : ∀ k, k ≤ 8 → Lst (HS B t n 0 rests k) 268435456 (heads (9 * 0 + k))) : wp (m_X3_leastHead heads) (fun v => Lst (fun x => ∃ e b, viaG B t n 0 (Rc rests) 268435456 9 e b x) 268435456 v) := by
  have hst : ∀ j : Int, stp B 9 j = 0 := by
    intro j
    unfold stp
    rw [if_pos rfl]
  have hhd : ∀ k, k ≤ 8 → heads k ≤ 268435456 := by
    intro k hk
    have h1 := hL k hk
    rw [show 9 * 0 + k = k by omega] at h1
    rcases h1 with ⟨z, _⟩ | ⟨z, _⟩ <;> omega
  unfold m_X3_leastHead
  refine wp_bind (P := fun u : Nat × Int × Int => Lst (fun x => ∃ e b, viaG B t n 0 (Rc rests) 268435456 9 e b x) 268435456 u.2.1) (wp_loop (fun j y => y.2 = (j : Int) ∧ Lst (fun x => ∃ (j' : Nat), j' < j ∧ HS B t n 0 rests j' x) 268435456 y.1 ∧ inI y.1) 9 (by omega) ⟨rfl, Lst.none (fun x ⟨j', h, _⟩ => absurd h (by omega)), by decide⟩ ?_) ?_
  · intro j y hj hs
    obtain ⟨a1, a2, a3⟩ := hs
    unfold m_X3_leastHead_5
    refine wp_gd (by omega) (wp_if (fun c1 => ?_) (fun c1 => ?_))
    · refine wp_end (by decide) (a2.iff (fun x => ?_))
      rw [HS_via hW]
      constructor
      · rintro ⟨j', z, h1, h2, h3⟩
        rw [hst] at h3
        have : x = z := by omega
        rw [this]
        exact ⟨j', by omega, h2⟩
      · rintro ⟨j', h1, h2⟩
        exact ⟨j', x, by omega, h2, by rw [hst]; omega⟩
    · rw [show y.2.toNat = j by omega]
      have hh := hH j
      refine wp_gd (by omega) (wp_gd a3 (wp_gd hh (wp_vl (wp_vl (wp_go ⟨by omega, by show y.2 + 1 = _; omega, ?_, ?_⟩)))))
      · have h1 := hL j (by omega)
        rw [show 9 * 0 + j = j by omega] at h1
        refine a2.union h1 (fun x => ?_)
        constructor
        · rintro ⟨j', h2, h3⟩
          by_cases hjj : j' = j
          · subst hjj
            exact Or.inr h3
          · exact Or.inl ⟨j', by omega, h3⟩
        · rintro (⟨j', h2, h3⟩ | h3)
          · exact ⟨j', by omega, h3⟩
          · exact ⟨j, by omega, h3⟩
      · show inI (min y.1 (heads j))
        omega
  · rintro ⟨t5, y1, y2⟩ hu
    exact wp_some hu
/-- the kind ahead of the next part -/
def KA (B : Nat → Nat → Int) (len : Nat) (entries : Nat → Int) (K : Nat) : Prop := (len = 0 ∧ K = 9) ∨ (0 < len ∧ (0 ≤ entries (len - 1) ∧ entries (len - 1) ≤ 540) ∧ kd (B 6) (entries (len - 1)) = K ∧ K ≤ 8)
theorem q_costFrom {B : Nat → Nat → Int} {len K : Nat} {sc rests entries : Nat → Int} (hsc : SCo B sc) (hlen : len < 36) (hK : KA B len entries K) {v : Int} (hv : inI v) {b k : Nat} (hb : b ≤ 36) (hk : k ≤ 8) {x2 x3 ln : Int} (e2 : x2 = b) (e3 : x3 = k) (el : ln = len) : m_X3_costFrom v x2 x3 (B 6) sc rests ln entries = some (stp B K k + v / 1024 + rests (9 * b + k)) := by
  refine wp_out ?_
  unfold m_X3_costFrom
  have er : (x2 * 9 + x3).toNat = 9 * b + k := by omega
  rcases hK with ⟨h1, h2⟩ | ⟨h1, h2, h3, h4⟩
  · refine wp_gd (by omega) (wp_if (fun _ => ?_) (fun z => absurd (by omega) z))
    unfold m_X3_costFrom_42
    rw [er]
    refine wp_gd hv (wp_gd (by omega) (wp_some ?_))
    unfold stp
    rw [if_pos (by omega)]
  · refine wp_gd (by omega) (wp_if (fun z => absurd z (by omega)) (fun _ => ?_))
    rw [show (ln - 1).toNat = len - 1 by omega]
    refine wp_gd (by omega) (wp_eq (q_kindOf h2) ?_)
    rw [h3, e3, show ((K : Int) * 9 + (k : Int)).toNat = 9 * K + k by omega, hsc K k h4 hk]
    unfold m_X3_costFrom_42
    rw [← e3, er]
    exact wp_gd (by omega) (wp_gd hv (wp_gd (by omega) (wp_some rfl)))
def seen (cb ck b k : Nat) : Prop := b < cb ∨ (b = cb ∧ k < ck)
def Cm (B : Nat → Nat → Int) (t : Nat → Int) (n a : Nat) (rests : Nat → Int) (K : Nat) (wanted : Int) (b k : Nat) (v : Int) : Prop := Lst (VV B t a b k) 2147483647 v ∧ v ≠ 2147483647 ∧ LT B n a b ∧ stp B K k + v / 1024 + rests (9 * b + k) = wanted
def Fi (B : Nat → Nat → Int) (t : Nat → Int) (n a : Nat) (rests : Nat → Int) (K : Nat) (wanted : Int) (cb ck : Nat) (fe fv : Int) : Prop :=
  (fe = -1 ∧ fv = 2147483647 ∧ ∀ b k v, seen cb ck b k → a < b → b ≤ n → k ≤ 8 → ¬ Cm B t n a rests K wanted b k v) ∨
  (∃ b0 k0 : Nat, fe = b0 ∧ seen cb ck b0 k0 ∧ (a < b0 ∧ b0 ≤ n ∧ k0 ≤ 8) ∧ Cm B t n a rests K wanted b0 k0 fv ∧ ∀ b k v, seen cb ck b k → a < b → b ≤ n → k ≤ 8 → Cm B t n a rests K wanted b k v → fv % 1024 < v % 1024 ∨ (fv % 1024 = v % 1024 ∧ b0 ≤ b))
theorem Fi.same {B : Nat → Nat → Int} {t : Nat → Int} {n a : Nat} {rests : Nat → Int} {K : Nat} {wanted : Int} {cb ck cb' ck' : Nat} {fe fv : Int} (h : Fi B t n a rests K wanted cb ck fe fv) (h1 : ∀ b k, seen cb ck b k → k ≤ 8 → seen cb' ck' b k) (h2 : ∀ b k v, seen cb' ck' b k → a < b → b ≤ n → k ≤ 8 → Cm B t n a rests K wanted b k v → seen cb ck b k) : Fi B t n a rests K wanted cb' ck' fe fv := by
  rcases h with ⟨a1, a2, a3⟩ | ⟨b0, k0, a1, a2, a3, a4, a5⟩
  · exact Or.inl ⟨a1, a2, fun b k v g1 g2 g3 g4 g5 => a3 b k v (h2 b k v g1 g2 g3 g4 g5) g2 g3 g4 g5⟩
  · exact Or.inr ⟨b0, k0, a1, h1 b0 k0 a2 a3.2.2, a3, a4, fun b k v g1 g2 g3 g4 g5 => a5 b k v (h2 b k v g1 g2 g3 g4 g5) g2 g3 g4 g5⟩
theorem Cm_one {B : Nat → Nat → Int} {t : Nat → Int} {n a : Nat} {rests : Nat → Int} {K : Nat} {wanted : Int} {b k : Nat} {v v' : Int} (h : Cm B t n a rests K wanted b k v) (h' : Lst (VV B t a b k) 2147483647 v') : v = v' := by
  rcases h.1.two h' with ⟨z1, z2⟩ | ⟨z, _⟩
  · omega
  · exact z
set_option maxHeartbeats 4000000 in
theorem q_followPart {B : Nat → Nat → Int} {t : Nat → Int} (hB : GB B) (hW : GW B) (hS : GS B) {n : Nat} (hn : n ≤ 36) (hX : FXC B n) {fv vals : Nat → Int} (hF : FV B t n fv) (hV : ∀ b, 1 ≤ b → b ≤ n → COL B t (B 18 0).toNat b vals) {a : Nat} (ha : a < n) (hpa : a = 0 ∨ B 17 a ≠ 2) {rests sc begins ends entries costs : Nat → Int} (hsc : SCo B sc) (hR : RBc n (a + 1) rests) {len K : Nat} (hlen : len < 36) (hK : KA B len entries K) {wanted : Int} (hw : inI wanted) (hwl : wanted < 268435456) (hwL : Lst (fun x => ∃ e b, viaG B t n a (Rc rests) 268435456 K e b x) 268435456 wanted) {x1 sl ln : Int} (e1 : x1 = a) (es : sl = n) (el : ln = len) (hwb : wanted < 1000000) :
    wp (m_X3_followPart x1 wanted (B 6) sc fv rests ln begins ends entries costs sl (B 17) (B 19) vals) (fun u => ∃ (e b : Nat) (c : Int), FMG B t n a (Rc rests) 268435456 K wanted e b ∧ PC B t n a b e c ∧ u = ((b : Int), ((len + 1 : Nat) : Int), uz begins len a, uz ends len b, uz entries len e, uz costs len c)) := by
  have hKb : 0 ≤ (K : Int) ∧ (K : Int) ≤ 9 := by
    rcases hK with ⟨_, h⟩ | ⟨_, _, _, h⟩ <;> omega
  -- each part with which the rest costs what is wanted stands behind the least value of its stretch and kind
  have match_of : ∀ (e b : Nat), viaG B t n a (Rc rests) 268435456 K e b wanted → ∀ v, Lst (VV B t a b (kd (B 6) e).toNat) 2147483647 v → Cm B t n a rests K wanted b (kd (B 6) e).toNat v ∧ v % 1024 ≤ e := by
    rintro e b ⟨c, h1, h2, h3⟩ v hv
    have hkb := kd_bd hW h1.2.1
    have ek : (((kd (B 6) e).toNat : Nat) : Int) = kd (B 6) e := by omega
    have hne : v ≠ 2147483647 := by
      intro z
      rw [z] at hv
      exact VV_none hv h1 ek.symm
    obtain ⟨e0, p1, p2, p3, p4⟩ := VV_least (n := n) h1.1.1 h1.1.2 (PC_LT h1) hv hne
    have h4 := p4 e c h1 ek.symm
    have h5 : wanted ≤ v / 1024 + Rc rests b (kd (B 6) e).toNat + stp B K (kd (B 6) e) := by
      refine (hwL.le ⟨e0, b, v / 1024, p1, ?_, ?_⟩).1
      · show Rc rests b (kd (B 6) e0).toNat < 268435456
        rw [p3, Int.toNat_natCast]
        exact h2
      · show _ = v / 1024 + Rc rests b (kd (B 6) e0).toNat + stp B K (kd (B 6) e0)
        rw [p3, Int.toNat_natCast, ek]
    have h6 : v / 1024 = c := by omega
    refine ⟨⟨hv, hne, PC_LT h1, ?_⟩, h4.2 h6⟩
    rw [ek, h6, h3]
    show stp B K (kd (B 6) e) + c + rests (9 * b + (kd (B 6) e).toNat) = c + rests (9 * b + (kd (B 6) e).toNat) + stp B K (kd (B 6) e)
    omega
  have VVex : ∀ (b k : Nat), a < b → b ≤ n → k ≤ 8 → ∃ v, Lst (VV B t a b k) 2147483647 v := by
    intro b k h1 h2 h3
    obtain ⟨v, _, hv⟩ := q_valueOf hB hW hn hX hF hV h1 h2 h3 rfl rfl rfl
    exact ⟨v, hv⟩
  unfold m_X3_followPart
  refine wp_bind (q_reachFrom hB hn ha e1 es) ?_
  rintro r ⟨R, rfl, r1, r2, r3, r4⟩
  have hreach : ∀ b, a < b → b ≤ n → LT B n a b → b ≤ R := by
    intro b hab hbn hl
    by_cases h : b ≤ R
    · exact h
    · exfalso
      rcases r4 with r4 | r4
      · omega
      · exact hl.2.2 R r1 (by omega) r4
  refine wp_vl (wp_bind (P := fun u : Nat × Int × Int × Int => Fi B t n a rests K wanted (R + 1) 0 u.2.1 u.2.2.1) (wp_loop (fun j y => y.2.2 = ((a + 1 + j : Nat) : Int) ∧ Fi B t n a rests K wanted (a + 1 + j) 0 y.1 y.2.1) (R - a) (by omega) ⟨by show x1 + 1 = _; omega, Or.inl ⟨rfl, rfl, fun b k v g1 g2 _ _ _ => ?_⟩⟩ ?_) ?_)
  · unfold seen at g1
    omega
  · intro j y hj hs
    obtain ⟨a1, a2⟩ := hs
    unfold m_X3_followPart_21
    refine wp_gd (by omega) (wp_gd (by omega) (wp_if (fun c2 => ?_) (fun c2 => ?_)))
    · refine wp_end (by decide) ?_
      show Fi B t n a rests K wanted (R + 1) 0 y.1 y.2.1
      rw [show R + 1 = a + 1 + j by omega]
      exact a2
    · obtain ⟨b, eb⟩ : ∃ b, b = a + 1 + j := ⟨_, rfl⟩
      rw [← eb] at a1 a2
      have hbR : b ≤ R := by omega
      refine wp_bind (P := fun u : Nat × Int × Int × Int => Fi B t n a rests K wanted (b + 1) 0 u.2.1 u.2.2.1) (wp_loop (fun k d => d.2.2 = (k : Int) ∧ Fi B t n a rests K wanted b k d.1 d.2.1) 9 (by omega) ⟨rfl, a2⟩ ?_) ?_
      · intro k d hk hsd
        obtain ⟨d1, d2⟩ := hsd
        unfold m_X3_followPart_31
        refine wp_gd (by omega) (wp_if (fun c3 => ?_) (fun c3 => ?_))
        · refine wp_end (by decide) (d2.same (fun b' k' g1 g2 => ?_) (fun b' k' v g1 g2 g3 g4 g5 => ?_))
          · unfold seen at g1 ⊢
            omega
          · unfold seen at g1 ⊢
            omega
        · refine wp_bind (q_partsAt hB hn (p := b) (by omega) a1 es) ?_
          intro r5 hr5
          refine wp_gd (by omega) (wp_if (fun c4 => ?_) (fun c4 => ?_))
          · have hno : ¬ (b = 0 ∨ b = n ∨ B 17 b ≠ 2) := by
              rcases hr5 with ⟨z, _⟩ | ⟨_, z⟩
              · omega
              · exact z
            refine wp_end (by decide) (d2.same (fun b' k' g1 g2 => ?_) (fun b' k' v g1 g2 g3 g4 g5 => ?_))
            · unfold seen at g1 ⊢
              omega
            · have hb : b' ≠ b := by
                intro z
                subst z
                rcases g5.2.2.1.2.1 with h | h
                · exact hno (Or.inr (Or.inl h))
                · exact hno (Or.inr (Or.inr h))
              unfold seen at g1 ⊢
              omega
          · have hlt : LT B n a b := by
              refine ⟨hpa, ?_, fun p h1 h2 => r3 p h1 (by omega)⟩
              rcases hr5 with ⟨_, z⟩ | ⟨z, _⟩
              · rcases z with z | z | z
                · omega
                · exact Or.inl z
                · exact Or.inr z
              · omega
            have hkeep : (∀ v, ¬ Cm B t n a rests K wanted b k v) → Fi B t n a rests K wanted b (k + 1) d.1 d.2.1 := by
              intro hno
              refine d2.same (fun b' k' g1 g2 => ?_) (fun b' k' v g1 g2 g3 g4 g5 => ?_)
              · unfold seen at g1 ⊢
                omega
              · by_cases hz : b' = b ∧ k' = k
                · obtain ⟨rfl, rfl⟩ := hz
                  exact absurd g5 (hno v)
                · unfold seen at g1 ⊢
                  omega
            refine wp_bind (q_valueOf hB hW hn hX hF hV (a := a) (b := b) (k := k) (by omega) (by omega) (by omega) e1 a1 d1) ?_
            intro v hv
            have hvb : v = 2147483647 ∨ (-400000 ≤ v ∧ v ≤ 4000000) := by
              by_cases h : v = 2147483647
              · exact Or.inl h
              · exact Or.inr (VV_bd hB hW (hv.mem h))
            have hrb := hR.1 b k (by omega) (by omega) (by omega)
            have hst := stp_bd hS (k := (K : Int)) (j := (k : Int)) hKb (by omega)
            -- the last step, with the candidate taken as one to be looked at or not
            have h86 : ∀ t0 : Int, ((t0 = 1 ∧ (d.1 = -1 ∨ v % 1024 < d.2.1 % 1024)) ∨ (t0 = 0 ∧ d.1 ≠ -1 ∧ d.2.1 % 1024 ≤ v % 1024)) → wp (m_X3_followPart_86 x1 wanted d.1 d.2.1 (R : Int) y.2.2 d.2.2 v t0 (B 6) sc fv rests ln begins ends entries costs sl (B 17) (B 19) vals) (fun u : Nat × Int × Int × Int => (u.1 = 0 → k < 9 ∧ u.2.2.2 = ((k + 1 : Nat) : Int) ∧ Fi B t n a rests K wanted b (k + 1) u.2.1 u.2.2.1) ∧ (u.1 ≠ 0 → Fi B t n a rests K wanted (b + 1) 0 u.2.1 u.2.2.1)) := by
              intro t0 ht0
              unfold m_X3_followPart_86
              refine wp_gd (by omega) (wp_if (fun c5 => ?_) (fun c5 => ?_))
              · refine wp_vl (wp_some ⟨fun _ => ⟨by omega, by show d.2.2 + 1 = _; omega, hkeep (fun v' hc => ?_)⟩, fun z => absurd rfl z⟩)
                have := Cm_one hc hv
                exact hc.2.1 (by omega)
              · refine wp_gd (by omega) (wp_if (fun c6 => ?_) (fun c6 => ?_))
                · refine wp_vl (wp_some ⟨fun _ => ⟨by omega, by show d.2.2 + 1 = _; omega, ?_⟩, fun z => absurd rfl z⟩)
                  have hd2 : d.1 ≠ -1 ∧ d.2.1 % 1024 ≤ v % 1024 := by
                    rcases ht0 with ⟨z, _⟩ | ⟨_, z⟩
                    · omega
                    · exact z
                  rcases d2 with ⟨z, _⟩ | ⟨b0, k0, g1, g2, g3, g4, g5⟩
                  · exact absurd z hd2.1
                  · refine Or.inr ⟨b0, k0, g1, ?_, g3, g4, fun b' k' v' f1 f2 f3 f4 f5 => ?_⟩
                    · unfold seen at g2 ⊢
                      omega
                    · show d.2.1 % 1024 < v' % 1024 ∨ (d.2.1 % 1024 = v' % 1024 ∧ b0 ≤ b')
                      by_cases hz : b' = b ∧ k' = k
                      · obtain ⟨rfl, rfl⟩ := hz
                        have hvv := Cm_one f5 hv
                        have hb0 : b0 ≤ b' := by
                          unfold seen at g2
                          omega
                        rw [hvv]
                        omega
                      · refine g5 b' k' v' ?_ f2 f3 f4 f5
                        unfold seen at f1 ⊢
                        omega
                · have hd2 : d.1 = -1 ∨ v % 1024 < d.2.1 % 1024 := by
                    rcases ht0 with ⟨_, z⟩ | ⟨z, _⟩
                    · exact z
                    · omega
                  refine wp_eq (q_costFrom hsc hlen hK (by omega) (b := b) (k := k) (by omega) (by omega) a1 d1 el) ?_
                  refine wp_gd (by omega) (wp_gd hw (wp_if (fun c7 => ?_) (fun c7 => ?_)))
                  · have hcm : Cm B t n a rests K wanted b k v := ⟨hv, c5, hlt, c7⟩
                    refine wp_vl (wp_some ⟨fun _ => ⟨by omega, by show d.2.2 + 1 = _; omega, Or.inr ⟨b, k, a1, Or.inr ⟨rfl, by omega⟩, ⟨by omega, by omega, by omega⟩, hcm, fun b' k' v' f1 f2 f3 f4 f5 => ?_⟩⟩, fun z => absurd rfl z⟩)
                    show v % 1024 < v' % 1024 ∨ (v % 1024 = v' % 1024 ∧ b ≤ b')
                    by_cases hz : b' = b ∧ k' = k
                    · obtain ⟨rfl, rfl⟩ := hz
                      have := Cm_one f5 hv
                      rw [this]
                      exact Or.inr ⟨rfl, Nat.le_refl _⟩
                    · have hsn : seen b k b' k' := by
                        unfold seen at f1 ⊢
                        omega
                      rcases d2 with ⟨z1, _, z3⟩ | ⟨b0, k0, g1, g2, g3, g4, g5⟩
                      · exact absurd f5 (z3 b' k' v' hsn f2 f3 f4)
                      · have h9 := g5 b' k' v' hsn f2 f3 f4 f5
                        rcases hd2 with h10 | h10
                        · omega
                        · omega
                  · refine wp_vl (wp_some ⟨fun _ => ⟨by omega, by show d.2.2 + 1 = _; omega, hkeep (fun v' hc => ?_)⟩, fun z => absurd rfl z⟩)
                    have := Cm_one hc hv
                    rw [this] at hc
                    exact c7 hc.2.2.2
            have hdI : inI d.1 ∧ inI (d.2.1 % 1024) := by
              rcases d2 with ⟨z1, z2, _⟩ | ⟨b0, k0, g1, g2, g3, g4, g5⟩ <;> omega
            refine wp_gd hdI.1 (wp_if (fun c5 => ?_) (fun c5 => ?_))
            · exact h86 1 (Or.inl ⟨rfl, Or.inl c5⟩)
            · refine wp_gd (by omega) (wp_gd hdI.2 (wp_if (fun c6 => ?_) (fun c6 => ?_)))
              · exact h86 0 (Or.inr ⟨rfl, c5, c6⟩)
              · exact h86 1 (Or.inl ⟨rfl, Or.inr (by omega)⟩)
      · rintro ⟨t31, y3, y4, y7⟩ hu
        refine wp_vl (wp_go ⟨by omega, by show y.2.2 + 1 = _; omega, ?_⟩)
        rw [show a + 1 + (j + 1) = b + 1 by omega]
        exact hu
  · rintro ⟨t21, fe, fx, y6⟩ hu
    have hu : Fi B t n a rests K wanted (R + 1) 0 fe fx := hu
    obtain ⟨e1', b1', hm⟩ := hwL.mem (by omega)
    have hkb1 := kd_bd hW hm.choose_spec.1.2.1
    have hb1 := hm.choose_spec.1.1
    obtain ⟨v1, hv1⟩ := VVex b1' (kd (B 6) e1').toNat hb1.1 hb1.2 (by omega)
    obtain ⟨hc1, _⟩ := match_of e1' b1' hm v1 hv1
    have hs1 : seen (R + 1) 0 b1' (kd (B 6) e1').toNat := by
      have := hreach b1' hb1.1 hb1.2 hc1.2.2.1
      unfold seen
      omega
    rcases hu with ⟨z1, z2, z3⟩ | ⟨b0, k0, g1, g2, g3, g4, g5⟩
    · exact absurd hc1 (z3 _ _ _ hs1 hb1.1 hb1.2 (by omega))
    · refine wp_gd (by omega) (wp_if (fun z => absurd z (by omega)) (fun _ => ?_))
      obtain ⟨e0, p1, p2, p3, p4⟩ := VV_least (n := n) g3.1 g3.2.1 g4.2.2.1 g4.1 g4.2.1
      have hvb := VV_bd hB hW (g4.1.mem g4.2.1)
      have hln : ln.toNat = len := by omega
      rw [hln]
      refine wp_gd (by omega) (wp_vl (wp_gd (by omega) (wp_vl (wp_gd (by omega) (wp_vl (wp_gd (by omega) (wp_gd (by omega) (wp_vl (wp_vl (wp_some ?_))))))))))
      have hrest : rests (9 * b0 + k0) < 268435456 := by
        have h1 := hR.1 b0 k0 (by omega) g3.2.1 g3.2.2
        have h2 := g4.2.2.2
        have hst := stp_bd hS (k := (K : Int)) (j := (k0 : Int)) hKb (by omega)
        omega
      refine ⟨e0, b0, fx / 1024, ⟨⟨fx / 1024, p1, ?_, ?_⟩, ?_⟩, p1, ?_⟩
      · show rests (9 * b0 + (kd (B 6) e0).toNat) < 268435456
        rw [p3, Int.toNat_natCast]
        exact hrest
      · show wanted = fx / 1024 + rests (9 * b0 + (kd (B 6) e0).toNat) + stp B K (kd (B 6) e0)
        rw [p3, Int.toNat_natCast, ← g4.2.2.2]
        omega
      · intro e' b' hbf hvia
        have hv' := hvia.choose_spec.1
        have hkb' := kd_bd hW hv'.2.1
        obtain ⟨v', hvv'⟩ := VVex b' (kd (B 6) e').toNat hv'.1.1 hv'.1.2 (by omega)
        obtain ⟨hc', hle⟩ := match_of e' b' hvia v' hvv'
        have hs' : seen (R + 1) 0 b' (kd (B 6) e').toNat := by
          have := hreach b' hv'.1.1 hv'.1.2 hc'.2.2.1
          unfold seen
          omega
        have := g5 b' _ v' hs' hv'.1.1 hv'.1.2 (by omega) hc'
        unfold bfr at hbf
        omega
      · rw [g1, e1, el, ← p2]
        rfl
end
section
/-! the parts of a reading: one chain for both -/
def LK (B : Nat → Nat → Int) (t : Nat → Int) (n : Nat) (R : Nat → Nat → Int) (far total : Int) (bg en et : Nat → Int) (i : Nat) : Prop := ∃ (a b e K : Nat) (wanted : Int), bg i = a ∧ en i = b ∧ et i = e ∧ (i = 0 → a = 0 ∧ K = 9 ∧ wanted = total) ∧ (∀ j, i = j + 1 → en j = a ∧ kd (B 6) (et j) = K ∧ wanted = R a K) ∧ FMG B t n a R far K wanted e b
def CHN (B : Nat → Nat → Int) (t : Nat → Int) (n : Nat) (R : Nat → Nat → Int) (far total : Int) (P : Nat) (bg en et : Nat → Int) : Prop := P ≤ n ∧ (∀ i, i < P → LK B t n R far total bg en et i) ∧ (0 < P → en (P - 1) = n ∧ total < far) ∧ (P = 0 → n = 0 ∨ far ≤ total)
theorem FMG_in {B : Nat → Nat → Int} {t : Nat → Int} {n a : Nat} {R : Nat → Nat → Int} {far k wanted : Int} {e b : Nat} (h : FMG B t n a R far k wanted e b) : a < b ∧ b ≤ n ∧ EV B e ∧ e ≤ 540 ∧ R b (kd (B 6) e).toNat < far ∧ LT B n a b := by
  obtain ⟨c, h1, h2, _⟩ := h.1
  have he : e ≤ 540 := by rcases h1.2.1 with z | z <;> omega
  exact ⟨h1.1.1, h1.1.2, h1.2.1, he, h2, h1.2.2.1.1⟩
theorem FMG_one {B : Nat → Nat → Int} {t : Nat → Int} {n a : Nat} {R R' : Nat → Nat → Int} {far far' k wanted : Int} {e b e' b' : Nat} (hv : ∀ (e b : Nat) (x : Int), viaG B t n a R far k e b x ↔ viaG B t n a R' far' k e b x) (h : FMG B t n a R far k wanted e b) (h' : FMG B t n a R' far' k wanted e' b') : e = e' ∧ b = b' := by
  have h1 : ¬ bfr e b e' b' := fun z => h.2 e' b' z ((hv _ _ _).mpr h'.1)
  have h2 : ¬ bfr e' b' e b := fun z => h'.2 e b z ((hv _ _ _).mp h.1)
  unfold bfr at h1 h2
  omega
def Rel2 (n : Nat) (R R' : Nat → Nat → Int) (far far' : Int) : Prop := ∀ b k : Nat, b ≤ n → k ≤ 8 → ((R b k = far ∧ R' b k = far') ∨ (R b k = R' b k ∧ R b k < far ∧ R' b k < far'))
theorem CHN_one {B : Nat → Nat → Int} {t : Nat → Int} (hW : GW B) {n : Nat} {R R' : Nat → Nat → Int} {far far' total total' : Int} (hR : Rel2 n R R' far far') (ht : (total = far ∧ total' = far') ∨ (total = total' ∧ total < far ∧ total' < far')) {P P' : Nat} {bg en et bg' en' et' : Nat → Int} (h : CHN B t n R far total P bg en et) (h' : CHN B t n R' far' total' P' bg' en' et') : P = P' ∧ ∀ i, i < P → bg i = bg' i ∧ en i = en' i ∧ et i = et' i := by
  have via2 : ∀ (a : Nat) (k : Int) (e b : Nat) (x : Int), viaG B t n a R far k e b x ↔ viaG B t n a R' far' k e b x := fun a k e b x => viaG_congr hW (fun b k _ g2 g3 => hR b k g2 g3)
  have key : ∀ i, i < P → i < P' ∧ bg i = bg' i ∧ en i = en' i ∧ et i = et' i := by
    intro i
    induction i with
    | zero =>
      intro hi
      obtain ⟨a, b, e, K, w, g1, g2, g3, g4, _, g6⟩ := h.2.1 0 hi
      obtain ⟨ea, eK, ew⟩ := g4 rfl
      rw [ea, eK, ew] at g6
      have f := FMG_in g6
      have hP' : 0 < P' := by
        rcases Nat.eq_zero_or_pos P' with hz | hz
        · have := (h.2.2.1 hi).2
          rcases h'.2.2.2 hz with z | z
          · omega
          · omega
        · exact hz
      obtain ⟨a', b', e', K', w', g1', g2', g3', g4', _, g6'⟩ := h'.2.1 0 hP'
      obtain ⟨ea', eK', ew'⟩ := g4' rfl
      rw [ea', eK', ew'] at g6'
      have hw : total = total' := by
        have := (h.2.2.1 hi).2
        omega
      rw [hw] at g6
      obtain ⟨he, hb⟩ := FMG_one (fun e b x => via2 0 _ e b x) g6 g6'
      exact ⟨hP', by rw [g1, g1', ea, ea'], by rw [g2, g2', hb], by rw [g3, g3', he]⟩
    | succ j ih =>
      intro hi
      obtain ⟨hj, _, i2, i3⟩ := ih (by omega)
      obtain ⟨a, b, e, K, w, g1, g2, g3, _, g5, g6⟩ := h.2.1 (j + 1) hi
      obtain ⟨q1, q2, q3⟩ := g5 j rfl
      have f := FMG_in g6
      have hP' : j + 1 < P' := by
        by_cases hz : j + 1 < P'
        · exact hz
        · have hpz : P' - 1 = j := by omega
          have := (h'.2.2.1 (by omega)).1
          rw [hpz] at this
          omega
      obtain ⟨a', b', e', K', w', g1', g2', g3', _, g5', g6'⟩ := h'.2.1 (j + 1) hP'
      obtain ⟨q1', q2', q3'⟩ := g5' j rfl
      have haa : a = a' := by omega
      have hKK : K = K' := by
        rw [i3] at q2
        omega
      subst haa
      subst hKK
      obtain ⟨a0, b0, e0, K0, w0, p1, p2, p3, _, _, p6⟩ := h.2.1 j (by omega)
      have f0 := FMG_in p6
      have hKb := kd_bd hW f0.2.2.1
      have hKe : kd (B 6) e0 = K := by
        rw [← p3]
        exact q2
      have hlt : R a K < far := by
        have := f0.2.2.2.2.1
        rw [hKe, Int.toNat_natCast, show b0 = a by omega] at this
        exact this
      have hww : w = w' := by
        rcases hR a K (by omega) (by omega) with ⟨z, _⟩ | ⟨z, _⟩
        · omega
        · omega
      subst hww
      obtain ⟨rfl, rfl⟩ := FMG_one (fun e b x => via2 a _ e b x) g6 g6'
      exact ⟨hP', by rw [g1, g1'], by rw [g2, g2'], by rw [g3, g3']⟩
  have hPP : P = P' := by
    rcases Nat.lt_trichotomy P P' with hlt | heq | hgt
    · exfalso
      rcases Nat.eq_zero_or_pos P with hz | hz
      · have h1 := h.2.2.2 hz
        have h2 := (h'.2.2.1 (by omega)).2
        obtain ⟨a, b, e, K, w, _, _, _, _, _, g6⟩ := h'.2.1 0 (by omega)
        have f := FMG_in g6
        rcases h1 with z | z
        · omega
        · omega
      · have h1 := (h.2.2.1 hz).1
        obtain ⟨_, _, i2, _⟩ := key (P - 1) (by omega)
        obtain ⟨a, b, e, K, w, g1, _, _, _, g5, g6⟩ := h'.2.1 P hlt
        have f := FMG_in g6
        have := (g5 (P - 1) (by omega)).1
        omega
    · exact heq
    · exfalso
      have := (key P' hgt).1
      omega
  exact ⟨hPP, fun i hi => (key i hi).2⟩
set_option maxHeartbeats 4000000 in
theorem q_follow {B : Nat → Nat → Int} {t : Nat → Int} (hB : GB B) (hW : GW B) (hS : GS B) {n : Nat} (hn : n ≤ 36) (h0 : 0 < n) (hX : FXC B n) {fv vals : Nat → Int} (hF : FV B t n fv) (hV : ∀ b, 1 ≤ b → b ≤ n → COL B t (B 18 0).toNat b vals) {rests sc begins ends entries costs : Nat → Int} (hsc : SCo B sc) (hR : BRc B t n 0 rests) {total : Int} (htL : Lst (fun x => ∃ e b, viaG B t n 0 (Rc rests) 268435456 9 e b x) 268435456 total) (htl : total < 268435456) (htb : -1000000 < total ∧ total < 1000000) {sl : Int} (es : sl = n) :
    wp (m_X3_follow (B 6) sc fv rests total 0 begins ends entries costs sl (B 17) (B 19) vals) (fun u => ∃ P : Nat, u.1 = P ∧ CHN B t n (Rc rests) 268435456 total P u.2.1 u.2.2.1 u.2.2.2.1 ∧ ∀ i, i < P → ∃ a b e : Nat, u.2.1 i = a ∧ u.2.2.1 i = b ∧ u.2.2.2.1 i = e ∧ PC B t n a b e (u.2.2.2.2 i)) := by
  unfold m_X3_follow
  have hRB : ∀ a, RBc n a rests := fun a => ⟨fun b k h1 h2 h3 => hR.2.1.1 b k (by omega) h2 h3, hR.2.1.2⟩
  refine wp_bind (P := fun u : Nat × Int × Int × Int × (Nat → Int) × (Nat → Int) × (Nat → Int) × (Nat → Int) => ∃ P : Nat, u.2.2.2.1 = P ∧ CHN B t n (Rc rests) 268435456 total P u.2.2.2.2.1 u.2.2.2.2.2.1 u.2.2.2.2.2.2.1 ∧ ∀ i, i < P → ∃ a b e : Nat, u.2.2.2.2.1 i = a ∧ u.2.2.2.2.2.1 i = b ∧ u.2.2.2.2.2.2.1 i = e ∧ PC B t n a b e (u.2.2.2.2.2.2.2 i)) (wp_loop (fun i y => ∃ a K : Nat, y.1 = a ∧ a ≤ n ∧ i ≤ a ∧ y.2.2.1 = (i : Int) ∧ (a = 0 ∨ B 17 a ≠ 2 ∨ a = n) ∧ KA B i y.2.2.2.2.2.1 K ∧ (i = 0 → a = 0 ∧ y.2.1 = total) ∧ (∀ j, i = j + 1 → y.2.2.2.2.1 j = a ∧ y.2.1 = rests (9 * a + K) ∧ rests (9 * a + K) < 268435456) ∧ (∀ i', i' < i → LK B t n (Rc rests) 268435456 total y.2.2.2.1 y.2.2.2.2.1 y.2.2.2.2.2.1 i') ∧ ∀ i', i' < i → ∃ a b e : Nat, y.2.2.2.1 i' = a ∧ y.2.2.2.2.1 i' = b ∧ y.2.2.2.2.2.1 i' = e ∧ PC B t n a b e (y.2.2.2.2.2.2 i')) n (by omega) ⟨0, 9, rfl, by omega, by omega, rfl, Or.inl rfl, Or.inl ⟨rfl, rfl⟩, fun _ => ⟨rfl, rfl⟩, fun j h => absurd h (by omega), fun i' h => absurd h (by omega), fun i' h => absurd h (by omega)⟩ ?_) ?_
  · intro i y hi hs
    obtain ⟨a, K, a1, a2, a3, a4, a5, a6, a7, a8, a9, a10⟩ := hs
    unfold m_X3_follow_7
    refine wp_gd (by omega) (wp_gd (by omega) (wp_if (fun c1 => ?_) (fun c1 => ?_)))
    · refine wp_end (by decide) ⟨i, a4, ⟨by omega, a9, fun hz => ?_, fun hz => ?_⟩, a10⟩
      · obtain ⟨j, rfl⟩ : ∃ j, i = j + 1 := ⟨i - 1, by omega⟩
        refine ⟨?_, htl⟩
        show y.2.2.2.2.1 (j + 1 - 1) = n
        rw [show j + 1 - 1 = j by omega, (a8 j rfl).1]
        omega
      · have := (a7 hz).1
        omega
    · refine wp_gd (by omega) (wp_if (fun c2 => absurd c2 (by omega)) (fun c2 => ?_))
      have hpa : a = 0 ∨ B 17 a ≠ 2 := by
        rcases a5 with z | z | z
        · exact Or.inl z
        · exact Or.inr z
        · omega
      have hw : Lst (fun x => ∃ e b, viaG B t n a (Rc rests) 268435456 K e b x) 268435456 y.2.1 ∧ y.2.1 < 268435456 ∧ -1000000 < y.2.1 ∧ y.2.1 < 1000000 := by
        rcases a6 with ⟨z1, z2⟩ | ⟨z1, z2, z3, z4⟩
        · obtain ⟨z3, z4⟩ := a7 z1
          rw [z3, z2, z4]
          exact ⟨htL, htl, htb.1, htb.2⟩
        · obtain ⟨j, rfl⟩ : ∃ j, i = j + 1 := ⟨i - 1, by omega⟩
          obtain ⟨_, w1, w2⟩ := a8 j rfl
          have h5 := hR.2.1.1 a K (by omega) a2 z4
          rw [w1]
          exact ⟨hR.2.2 a (Nat.zero_le _) (by omega) K z4, w2, by omega, by omega⟩
      refine wp_bind (q_followPart hB hW hS hn hX hF hV (a := a) (by omega) hpa hsc (hRB _) (len := i) (by omega) a6 (by omega) hw.2.1 hw.1 a1 es a4 hw.2.2.2) ?_
      rintro u ⟨e, b, c, f1, f2, rfl⟩
      have fin := FMG_in f1
      have hkb := kd_bd hW fin.2.2.1
      have ek : (((kd (B 6) e).toNat : Nat) : Int) = kd (B 6) e := by omega
      show wp (gd (inI (b : Int)) _) _
      refine wp_gd (by omega) (wp_if (fun z => absurd z (by omega)) (fun _ => ?_))
      rw [show ((((i + 1 : Nat) : Int) - 1)).toNat = i by omega, uz_at]
      refine wp_gd (by omega) (wp_eq (q_kindOf (by omega)) (wp_gd (by omega) (wp_vl (wp_go ⟨by omega, ?_⟩))))
      have hne : ∀ i', i' < i → i' ≠ i := fun i' h => by omega
      refine ⟨b, (kd (B 6) e).toNat, rfl, fin.2.1, by omega, rfl, ?_, ?_, fun z => absurd z (by omega), ?_, ?_, ?_⟩
      · rcases fin.2.2.2.2.2.2.1 with z | z
        · exact Or.inr (Or.inr z)
        · exact Or.inr (Or.inl z)
      · refine Or.inr ⟨by omega, ?_, ?_, by omega⟩
        · show 0 ≤ uz y.2.2.2.2.2.1 i e (i + 1 - 1) ∧ uz y.2.2.2.2.2.1 i e (i + 1 - 1) ≤ 540
          rw [show i + 1 - 1 = i by omega, uz_at]
          omega
        · show kd (B 6) (uz y.2.2.2.2.2.1 i e (i + 1 - 1)) = _
          rw [show i + 1 - 1 = i by omega, uz_at]
          exact ek.symm
      · intro j hj
        have hji : j = i := by omega
        subst hji
        refine ⟨?_, ?_, fin.2.2.2.2.1⟩
        · show uz y.2.2.2.2.1 j b j = b
          rw [uz_at]
        · show rests ((b : Int) * 9 + kd (B 6) e).toNat = _
          congr 1
          omega
      · intro i' hi'
        show LK B t n (Rc rests) 268435456 total (uz y.2.2.2.1 i a) (uz y.2.2.2.2.1 i b) (uz y.2.2.2.2.2.1 i e) i'
        by_cases hii : i' = i
        · subst hii
          refine ⟨a, b, e, K, y.2.1, uz_at _ _ _, uz_at _ _ _, uz_at _ _ _, fun z => ?_, fun j hj => ?_, f1⟩
          · obtain ⟨z1, z2⟩ := a7 z
            rcases a6 with ⟨_, z3⟩ | ⟨z3, _⟩
            · exact ⟨z1, z3, z2⟩
            · omega
          · subst hj
            obtain ⟨w1, w2, _⟩ := a8 j rfl
            rw [uz_ne _ _ (by omega), uz_ne _ _ (by omega)]
            refine ⟨w1, ?_, w2⟩
            rcases a6 with ⟨z, _⟩ | ⟨_, _, z, _⟩
            · omega
            · exact z
        · obtain ⟨a', b', e', K', w', g1, g2, g3, g4, g5, g6⟩ := a9 i' (by omega)
          refine ⟨a', b', e', K', w', by rw [uz_ne _ _ hii]; exact g1, by rw [uz_ne _ _ hii]; exact g2, by rw [uz_ne _ _ hii]; exact g3, g4, fun j hj => ?_, g6⟩
          rw [uz_ne _ _ (by omega), uz_ne _ _ (by omega)]
          exact g5 j hj
      · intro i' hi'
        show ∃ a' b' e' : Nat, uz y.2.2.2.1 i a i' = a' ∧ uz y.2.2.2.2.1 i b i' = b' ∧ uz y.2.2.2.2.2.1 i e i' = e' ∧ PC B t n a' b' e' (uz y.2.2.2.2.2.2 i c i')
        by_cases hii : i' = i
        · subst hii
          exact ⟨a, b, e, uz_at _ _ _, uz_at _ _ _, uz_at _ _ _, by rw [uz_at]; exact f2⟩
        · rw [uz_ne _ _ hii, uz_ne _ _ hii, uz_ne _ _ hii, uz_ne _ _ hii]
          exact a10 i' (by omega)
  · rintro ⟨t7, y1, y2, ln, bg, en, et, co⟩ hu
    show wp (if t7 = 1 then some (ln, bg, en, et, co) else some (ln, bg, en, et, co)) _
    exact wp_if (fun _ => wp_some hu) (fun _ => wp_some hu)
end
section
/-! the class's reading renewed -/
theorem viaG_eq {B : Nat → Nat → Int} {t : Nat → Int} {n a : Nat} {R R' : Nat → Nat → Int} {far : Int} (h : ∀ b k : Nat, a < b → b ≤ n → R b k = R' b k) {k : Int} {e b : Nat} {x : Int} : viaG B t n a R far k e b x ↔ viaG B t n a R' far k e b x := by
  constructor
  · rintro ⟨c, h1, h2, h3⟩
    rw [h _ _ h1.1.1 h1.1.2] at h2 h3
    exact ⟨c, h1, h2, h3⟩
  · rintro ⟨c, h1, h2, h3⟩
    rw [← h _ _ h1.1.1 h1.1.2] at h2 h3
    exact ⟨c, h1, h2, h3⟩
theorem HS_eq {B : Nat → Nat → Int} {t : Nat → Int} {n a : Nat} {rests rests' : Nat → Int} (h : ∀ b k : Nat, a < b → b ≤ n → k ≤ 8 → rests (9 * b + k) = rests' (9 * b + k)) {k : Nat} (hk : k ≤ 8) {x : Int} : HS B t n a rests k x ↔ HS B t n a rests' k x := by
  constructor
  · rintro ⟨e, b, c, h1, h2, h3, h4⟩
    rw [h _ _ h1.1.1 h1.1.2 hk] at h3 h4
    exact ⟨e, b, c, h1, h2, h3, h4⟩
  · rintro ⟨e, b, c, h1, h2, h3, h4⟩
    rw [← h _ _ h1.1.1 h1.1.2 hk] at h3 h4
    exact ⟨e, b, c, h1, h2, h3, h4⟩
/-- what the class knows of its reading -/
def RDC (B : Nat → Nat → Int) (t : Nat → Int) (n : Nat) (fv rests : Nat → Int) (total len : Int) (bg en et co vals : Nat → Int) : Prop := ∃ P : Nat, len = P ∧ P ≤ 36 ∧ (n = 0 → P = 0 ∧ total = 0) ∧ (0 < n → FV B t n fv ∧ (∀ b, 1 ≤ b → b ≤ n → COL B t (B 18 0).toNat b vals) ∧ BRc B t n 0 rests ∧ Lst (fun x => ∃ e b, viaG B t n 0 (Rc rests) 268435456 9 e b x) 268435456 total ∧ CHN B t n (Rc rests) 268435456 total P bg en et ∧ ∀ i, i < P → ∃ a b e : Nat, bg i = a ∧ en i = b ∧ et i = e ∧ PC B t n a b e (co i))
set_option maxHeartbeats 4000000 in
theorem q_renewC {B : Nat → Nat → Int} {t : Nat → Int} (hB : GB B) (hW : GW B) (hS : GS B) (ht : ∀ k, inI (t k)) {n cols : Nat} (hn : n ≤ 36) (hX : FXC B n) {now next seeds lows vals lr fv heads rests sc bg en et co : Nat → Int} {low high : Int} (nA xA : Nat) (hok : spOk now next low high) (hSd : ∀ i, inI (seeds i)) (hLo : ∀ i, inI (lows i)) (hVO : VO B cols vals lr) (hfv : ∀ i, inI (fv i)) (hhd : ∀ i, inI (heads i)) (hrs : ∀ i, inI (rests i)) (hsc : SCo B sc) {sl vc known total len : Int} (es : sl = n) (ec : vc = cols) (hkn : known = 0 ∨ (known = 1 ∧ RDC B t n fv rests total len bg en et co vals)) :
    wp (m_X3_renew (B 0) (B 1) (B 2) (B 3) (B 18 0) (B 4) (B 6) (B 7) (B 8) (B 18 1) (B 9) (B 11) (B 12) (B 13) sc fv heads rests known total len bg en et co sl t (B 17) (B 19) vals lr vc now nA next xA low high seeds lows) (fun u => RDC B t n u.1 u.2.2.1 u.2.2.2.2.1 u.2.2.2.2.2.1 u.2.2.2.2.2.2.1 u.2.2.2.2.2.2.2.1 u.2.2.2.2.2.2.2.2.1 u.2.2.2.2.2.2.2.2.2.1 u.2.2.2.2.2.2.2.2.2.2.1 ∧ u.2.2.2.1 = 1 ∧ (∀ i, inI (u.1 i)) ∧ (∀ i, inI (u.2.1 i)) ∧ (∀ i, inI (u.2.2.1 i)) ∧ (∃ cols' : Nat, u.2.2.2.2.2.2.2.2.2.2.2.2.1 = cols' ∧ VO B cols' u.2.2.2.2.2.2.2.2.2.2.1 u.2.2.2.2.2.2.2.2.2.2.2.1) ∧ spOk u.2.2.2.2.2.2.2.2.2.2.2.2.2.1 u.2.2.2.2.2.2.2.2.2.2.2.2.2.2.2.1 u.2.2.2.2.2.2.2.2.2.2.2.2.2.2.2.2.2.1 u.2.2.2.2.2.2.2.2.2.2.2.2.2.2.2.2.2.2.1 ∧ (∀ i, inI (u.2.2.2.2.2.2.2.2.2.2.2.2.2.2.2.2.2.2.2.1 i)) ∧ ∀ i, inI (u.2.2.2.2.2.2.2.2.2.2.2.2.2.2.2.2.2.2.2.2 i)) := by
  unfold m_X3_renew
  refine wp_gd (by omega) (wp_if (fun c1 => ?_) (fun c1 => ?_))
  · refine wp_gd (by omega) (wp_if (fun c2 => ?_) (fun c2 => ?_))
    · exact wp_some ⟨⟨0, rfl, by omega, fun _ => ⟨rfl, rfl⟩, fun z => absurd z (by omega)⟩, rfl, hfv, hhd, hrs, ⟨cols, ec, hVO⟩, hok, hSd, hLo⟩
    · have h0 : 0 < n := by omega
      refine wp_bind (q_spans hB hW ht hn nA xA hok hSd hLo hVO es ec) ?_
      rintro ⟨vv, lr2, vc2, n1, n1A, n2, n2A, lo, hi, sd, ls⟩ ⟨s1, s2, s3, s4, s5⟩
      have s2 : ∀ b, 1 ≤ b → b ≤ n → COL B t (B 18 0).toNat b vv := s2
      refine wp_bind (q_valueFixed hB hW ht hn hX n1A n2A s3 hfv es) ?_
      rintro ⟨f2, m1, m1A, m2, m2A, lo2, hi2⟩ ⟨v1, v2⟩
      have v1 : FV B t n f2 := v1
      refine wp_eq (q_fillRange (by omega) (by omega) (by omega) ⟨by decide, by omega⟩) ?_
      rw [show (sl * 9).toNat = 9 * n by omega, show ((sl + 1) * 9).toNat = 9 * (n + 1) by omega]
      refine wp_vl (wp_bind (P := fun u : Nat × Int × (Nat → Int) × (Nat → Int) => BRc B t n 0 u.2.2.2 ∧ (∀ i, inI (u.2.2.1 i)) ∧ ∀ k, k ≤ 8 → Lst (HS B t n 0 u.2.2.2 k) 268435456 (u.2.2.1 (9 * 0 + k))) (wp_loop (fun j y => y.1 = (n : Int) - 1 - j ∧ BRc B t n (n - j) y.2.2 ∧ (∀ i, inI (y.2.1 i)) ∧ (0 < j → ∀ k, k ≤ 8 → Lst (HS B t n (n - j) y.2.2 k) 268435456 (y.2.1 (9 * (n - j) + k)))) n (by omega) ⟨by show sl - 1 = _; omega, ⟨fun k hk => ?_, ⟨fun b k h1 h2 h3 => ?_, fz_inI hrs (by decide)⟩, fun a h1 h2 => absurd h1 (by omega)⟩, hhd, fun z => absurd z (by omega)⟩ ?_) ?_)
      · show fz rests (9 * n) (9 * (n + 1)) 0 (9 * n + k) = 0
        exact fz_in _ _ (by omega)
      · have hb : b = n := by omega
        subst hb
        right
        show -(4000 * ((b : Int) - b)) ≤ fz rests (9 * b) (9 * (b + 1)) 0 (9 * b + k) ∧ fz rests (9 * b) (9 * (b + 1)) 0 (9 * b + k) ≤ 4000 * ((b : Int) - b)
        rw [fz_in _ _ (by omega)]
        omega
      · intro j y hj hs
        obtain ⟨a1, a2, a3, a4⟩ := hs
        unfold m_X3_renew_85
        refine wp_gd (by omega) (wp_if (fun c3 => ?_) (fun c3 => ?_))
        · have hjn : n - j = 0 := by omega
          rw [hjn] at a2 a4
          exact wp_end (by decide) ⟨a2, a3, a4 (by omega)⟩
        · obtain ⟨a, ea⟩ : ∃ a, a = n - (j + 1) := ⟨_, rfl⟩
          have han : a < n := by omega
          rw [show n - j = a + 1 by omega] at a2
          obtain ⟨r1, r2, r3⟩ := a2
          refine wp_bind (q_fillHeads hB hW hn hX v1 s2 (a := a) han r2 a3 (by omega) es) ?_
          rintro hd ⟨g1, g2, g3⟩
          refine wp_bind (q_fillRests hB hW hS hn (a := a) han hsc r2 g3 g1 (by omega)) ?_
          rintro rr ⟨f1, f3, f4⟩
          have hsame : ∀ b k : Nat, a < b → b ≤ n → k ≤ 8 → rr (9 * b + k) = y.2.2 (9 * b + k) := fun b k h1 h2 h3 => f3 _ (by omega)
          refine wp_vl (wp_go ⟨by omega, by show y.1 + -1 = _; omega, ?_, g3, fun _ k hk => ?_⟩)
          · rw [← ea]
            refine ⟨fun k hk => ?_, f4, fun a' h1 h2 k hk => ?_⟩
            · show rr (9 * n + k) = 0
              rw [f3 _ (by omega)]
              exact r1 k hk
            · show Lst _ 268435456 (rr (9 * a' + k))
              by_cases haa : a' = a
              · subst haa
                refine (f1 k hk).iff (fun x => ?_)
                constructor
                · rintro ⟨e, b, h⟩
                  refine ⟨e, b, ?_⟩
                  obtain ⟨c, q1, q2, q3⟩ := h
                  have hkk := kd_bd hW q1.2.1
                  have he := hsame b (kd (B 6) e).toNat q1.1.1 q1.1.2 (by omega)
                  exact ⟨c, q1, by show y.2.2 _ < 268435456; rw [← he]; exact q2, by rw [q3]; show c + rr _ + _ = c + y.2.2 _ + _; rw [he]⟩
                · rintro ⟨e, b, h⟩
                  refine ⟨e, b, ?_⟩
                  obtain ⟨c, q1, q2, q3⟩ := h
                  have hkk := kd_bd hW q1.2.1
                  have he := hsame b (kd (B 6) e).toNat q1.1.1 q1.1.2 (by omega)
                  exact ⟨c, q1, by show rr _ < 268435456; rw [he]; exact q2, by rw [q3]; show c + y.2.2 _ + _ = c + rr _ + _; rw [he]⟩
              · rw [f3 _ (by omega)]
                refine (r3 a' (by omega) h2 k hk).iff (fun x => ?_)
                constructor
                · rintro ⟨e, b, h⟩
                  refine ⟨e, b, ?_⟩
                  obtain ⟨c, q1, q2, q3⟩ := h
                  have hkk := kd_bd hW q1.2.1
                  have he := hsame b (kd (B 6) e).toNat (by have := q1.1.1; omega) q1.1.2 (by omega)
                  exact ⟨c, q1, by show y.2.2 _ < 268435456; rw [← he]; exact q2, by rw [q3]; show c + rr _ + _ = c + y.2.2 _ + _; rw [he]⟩
                · rintro ⟨e, b, h⟩
                  refine ⟨e, b, ?_⟩
                  obtain ⟨c, q1, q2, q3⟩ := h
                  have hkk := kd_bd hW q1.2.1
                  have he := hsame b (kd (B 6) e).toNat (by have := q1.1.1; omega) q1.1.2 (by omega)
                  exact ⟨c, q1, by show rr _ < 268435456; rw [he]; exact q2, by rw [q3]; show c + y.2.2 _ + _ = c + rr _ + _; rw [he]⟩
          · rw [← ea]
            refine (g1 k hk).iff (fun x => ?_)
            exact HS_eq hsame hk
      · rintro ⟨t85, y1, hd, rr⟩ ⟨k1, k2, k3⟩
        have k1 : BRc B t n 0 rr := k1
        have k2 : ∀ i, inI (hd i) := k2
        have k3 : ∀ k, k ≤ 8 → Lst (HS B t n 0 rr k) 268435456 (hd (9 * 0 + k)) := k3
        have hRB1 : RBc n 1 rr := ⟨fun b k h1 h2 h3 => k1.2.1.1 b k (by omega) h2 h3, k1.2.1.2⟩
        refine wp_bind (q_leastHead hB hW hn h0 hRB1 k2 k3) ?_
        intro tot htot
        have htb : tot = 268435456 ∨ (tot < 268435456 ∧ -1000000 < tot ∧ tot < 1000000) := by
          rcases htot with ⟨z, _⟩ | ⟨z, hz, _⟩
          · exact Or.inl z
          · obtain ⟨jj, yy, q1, q2, q3⟩ := (HS_via hW).mp hz
            have q4 := HS_bd hB hW hRB1 q1 q2
            have q5 : stp B 9 jj = 0 := by unfold stp; rw [if_pos rfl]
            omega
        refine wp_gd (by omega) (wp_if (fun c4 => ?_) (fun c4 => ?_))
        · refine wp_some ⟨⟨0, rfl, by omega, fun z => absurd z (by omega), fun _ => ⟨v1, s2, k1, htot, ⟨by omega, fun i h => absurd h (by omega), fun h => absurd h (by omega), fun _ => Or.inr c4⟩, fun i h => absurd h (by omega)⟩⟩, rfl, v1.2, k2, k1.2.1.2, s1, v2, s4, s5⟩
        · refine wp_bind (q_follow hB hW hS hn h0 hX v1 s2 hsc k1 htot (by omega) (by omega) es) ?_
          rintro ⟨ln, bg2, en2, et2, co2⟩ ⟨P, p1, p2, p3⟩
          exact wp_some ⟨⟨P, p1, by have := p2.1; omega, fun z => absurd z (by omega), fun _ => ⟨v1, s2, k1, htot, p2, p3⟩⟩, rfl, v1.2, k2, k1.2.1.2, s1, v2, s4, s5⟩
  · rcases hkn with z | ⟨z, hd⟩
    · exact absurd z c1
    · exact wp_some ⟨hd, z, hfv, hhd, hrs, ⟨cols, ec, hVO⟩, hok, hSd, hLo⟩
end
section
/-! the reference's read, whole -/
abbrev Rr (rest : Nat → Int) : Nat → Nat → Int := fun b k => rest (10 * b + k)
abbrev pent (pW pE : Nat → Int) : Nat → Int := fun i => 9 * pW i + pE i + 1
/-- what the reference knows of its reading -/
def RDR (B : Nat → Nat → Int) (t : Nat → Int) (n : Nat) (rest ahead : Nat → Int) (parts total : Int) (pF pT pW pE : Nat → Int) : Prop := ∃ P : Nat, parts = P ∧ P ≤ 36 ∧ BR B t n 0 rest ∧ total = rest 9 ∧ CHN B t n (Rr rest) 134217728 total P pF pT (pent pW pE) ∧ (∀ i, i < P → (0 ≤ pW i ∧ pW i ≤ 60) ∧ (-1 ≤ pE i ∧ pE i < 8) ∧ (pW i = 60 → pE i = -1)) ∧ AHD B t n ahead
set_option maxHeartbeats 4000000 in
theorem q_read24 {B : Nat → Nat → Int} {t : Nat → Int} (hB : GB B) (hW : GW B) (hS : GS B) {n fm : Nat} (hn : n ≤ 36) {fF fT fW fE tb re ne rest ahead pF pT pW pE : Nat → Int} (hT : TBL B t n (540 * n) tb) (hF : FX B n fm fF fT fW fE) (hFi : ∀ i, inI (fF i) ∧ inI (fT i) ∧ inI (fW i) ∧ inI (fE i)) (hrs : ∀ i, inI (rest i)) (hah : ∀ i, inI (ahead i)) {sl gu ba nn mm isR isM parts total found f0 k0 : Int} (eg : gu = B 13 1) (eb : ba = B 13 2) (en : nn = n) (em : mm = fm) (pr : Nat → Int) :
    wp (m_X9_read_24 (B 0) (B 3) (B 1) (B 4) (B 9) (B 6) (B 7) (B 8) (B 11) (B 12) (B 18 0) (B 18 1) sl gu ba (B 14) (B 15) nn mm t (B 17) fF fT fW fE isR isM tb re ne rest ahead parts total pF pT pW pE found f0 k0) (fun u => u.1 = isR ∧ u.2.1 = 1 ∧ u.2.2.1 = tb ∧ u.2.2.2.1 = re ∧ u.2.2.2.2.1 = ne ∧ RDR B t n u.2.2.2.2.2.1 u.2.2.2.2.2.2.1 u.2.2.2.2.2.2.2.1 u.2.2.2.2.2.2.2.2.1 u.2.2.2.2.2.2.2.2.2.1 u.2.2.2.2.2.2.2.2.2.2.1 u.2.2.2.2.2.2.2.2.2.2.2.1 u.2.2.2.2.2.2.2.2.2.2.2.2.1) := by
  unfold m_X9_read_24
  -- the rests at the line's end
  refine wp_bind (P := fun u : Nat × Int × (Nat → Int) => (∀ k : Nat, k ≤ 9 → u.2.2 (10 * n + k) = 0) ∧ ∀ i, inI (u.2.2 i)) (wp_loop (fun k y => y.1 = (k : Int) ∧ (∀ k' : Nat, k' < k → y.2 (10 * n + k') = 0) ∧ ∀ i, inI (y.2 i)) 10 (by omega) ⟨rfl, fun k' h => absurd h (by omega), hrs⟩ ?_) ?_
  · intro k y hk hs
    obtain ⟨a1, a2, a3⟩ := hs
    unfold m_X9_read_31
    refine wp_gd (by omega) (wp_if (fun c1 => ?_) (fun c1 => ?_))
    · exact wp_end (by decide) ⟨fun k' hk' => a2 k' (by omega), a3⟩
    · have et : (10 * nn + y.1).toNat = 10 * n + k := by omega
      refine wp_eq (show m_X9_at nn y.1 = some (10 * nn + y.1) from rfl) ?_
      rw [et]
      refine wp_gd (by omega) (wp_vl (wp_vl (wp_go ⟨by omega, by show y.1 + 1 = _; omega, fun k' hk' => ?_, uz_inI a3 (by decide)⟩)))
      show uz y.2 (10 * n + k) 0 (10 * n + k') = 0
      by_cases h : k' = k
      · rw [h, uz_at]
      · rw [uz_ne _ _ (by omega)]
        exact a2 k' (by omega)
  · rintro ⟨t31, y1, r1⟩ ⟨g1, g2⟩
    have g1 : ∀ k : Nat, k ≤ 9 → r1 (10 * n + k) = 0 := g1
    -- the rests from each place
    refine wp_vl (wp_bind (P := fun u : Nat × Int × st6 => BR B t n 0 u.2.2.1 ∧ u.2.2.2 = (pF, pT, pW, pE, found)) (wp_loop (fun j y => y.1 = (n : Int) - 1 - j ∧ BR B t n (n - j) y.2.1 ∧ y.2.2 = (pF, pT, pW, pE, found)) n (by omega) ⟨by show nn - 1 = _; omega, ⟨g1, ⟨fun b k h1 h2 h3 h4 => ?_, g2⟩, fun a h1 h2 => absurd h1 (by omega)⟩, rfl⟩ ?_) ?_)
    · have hb : b = n := by omega
      subst hb
      show -(4000 * ((b : Int) - b)) ≤ r1 (10 * b + k) ∧ r1 (10 * b + k) ≤ 4000 * ((b : Int) - b)
      rw [g1 k h3]
      omega
    · intro j y hj hs
      obtain ⟨a1, a2, a3⟩ := hs
      unfold m_X9_read_64
      refine wp_gd (by omega) (wp_if (fun c1 => ?_) (fun c1 => ?_))
      · rw [show n - j = 0 by omega] at a2
        exact wp_end (by decide) ⟨a2, a3⟩
      · obtain ⟨a, ea⟩ : ∃ a, a = n - (j + 1) := ⟨_, rfl⟩
        have han : a < n := by omega
        have hya : y.1 = a := by omega
        rw [show n - j = a + 1 by omega] at a2
        refine wp_bind (P := fun u : Nat × Int × (Nat → Int) => (∀ k : Nat, k ≤ 9 → u.2.2 (10 * a + k) = 134217728) ∧ (∀ i, (i < 10 * a ∨ 10 * (a + 1) ≤ i) → u.2.2 i = y.2.1 i) ∧ ∀ i, inI (u.2.2 i)) (wp_loop (fun k d => d.1 = (k : Int) ∧ (∀ k' : Nat, k' < k → d.2 (10 * a + k') = 134217728) ∧ (∀ i, (i < 10 * a ∨ 10 * (a + 1) ≤ i) → d.2 i = y.2.1 i) ∧ ∀ i, inI (d.2 i)) 10 (by omega) ⟨rfl, fun k' h => absurd h (by omega), fun i _ => rfl, a2.2.1.2⟩ ?_) ?_
        · intro k d hk hsd
          obtain ⟨d1, d2, d3, d4⟩ := hsd
          unfold m_X9_read_70
          refine wp_gd (by omega) (wp_if (fun c2 => ?_) (fun c2 => ?_))
          · exact wp_end (by decide) ⟨fun k' hk' => d2 k' (by omega), d3, d4⟩
          · have et : (10 * y.1 + d.1).toNat = 10 * a + k := by omega
            refine wp_eq (show m_X9_at y.1 d.1 = some (10 * y.1 + d.1) from rfl) ?_
            rw [et]
            refine wp_gd (by omega) (wp_vl (wp_vl (wp_go ⟨by omega, by show d.1 + 1 = _; omega, fun k' hk' => ?_, fun i hi => ?_, uz_inI d4 (by decide)⟩)))
            · show uz d.2 (10 * a + k) 134217728 (10 * a + k') = 134217728
              by_cases h : k' = k
              · rw [h, uz_at]
              · rw [uz_ne _ _ (by omega)]
                exact d2 k' (by omega)
            · show uz d.2 (10 * a + k) 134217728 i = _
              rw [uz_ne _ _ (by omega)]
              exact d3 i hi
        · rintro ⟨t70, y2, r2⟩ ⟨k1, k2, k3⟩
          have k1 : ∀ k : Nat, k ≤ 9 → r2 (10 * a + k) = 134217728 := k1
          have k2 : ∀ i, (i < 10 * a ∨ 10 * (a + 1) ≤ i) → r2 i = y.2.1 i := k2
          have hBR : BR B t n (a + 1) r2 := by
            obtain ⟨b1, b2, b3⟩ := a2
            refine ⟨fun k hk => ?_, ⟨fun b k h1 h2 h3 h4 => ?_, k3⟩, fun a' h1 h2 k hk => ?_⟩
            · rw [k2 _ (by omega)]
              exact b1 k hk
            · rw [k2 _ (by omega)] at h4 ⊢
              exact b2.1 b k h1 h2 h3 h4
            · rw [k2 _ (by omega)]
              refine (b3 a' h1 h2 k hk).iff (fun x => ?_)
              constructor
              · rintro ⟨e, b, h⟩
                exact ⟨e, b, (via_congr (fun i hi => k2 i (by omega))).mp h⟩
              · rintro ⟨e, b, h⟩
                exact ⟨e, b, (via_congr (fun i hi => k2 i (by omega))).mpr h⟩
          refine wp_bind (q_each0 hB hW hS hn han hT hF hFi (s0 := (r2, y.2.2)) hBR k1 hya eg eb en em) ?_
          rintro ⟨q1, q2, q3, q4, q5, q6⟩ ⟨f1, f2⟩
          refine wp_vl (wp_go ⟨by omega, by show y.1 + -1 = _; omega, ?_, f2.trans a3⟩)
          rw [← ea]
          exact f1
    · rintro ⟨t64, y1', r2, q2, q3, q4, q5, q6⟩ ⟨hBR, hq⟩
      have hBR : BR B t n 0 r2 := hBR
      have hq : (q2, q3, q4, q5, q6) = (pF, pT, pW, pE, found) := hq
      have e2 : pF = q2 := (congrArg (fun z => z.1) hq).symm
      have e3 : pT = q3 := (congrArg (fun z => z.2.1) hq).symm
      have e4 : pW = q4 := (congrArg (fun z => z.2.2.1) hq).symm
      have e5 : pE = q5 := (congrArg (fun z => z.2.2.2.1) hq).symm
      have e6 : found = q6 := (congrArg (fun z => z.2.2.2.2) hq).symm
      subst e2
      subst e3
      subst e4
      subst e5
      subst e6
      refine wp_eq (show m_X9_at 0 9 = some (10 * 0 + 9) from rfl) (wp_gd (by decide) (wp_vl ?_))
      show wp ((zloop _ FU (0, 9, r2, 0, pF, pT, pW, pE, found, f0, k0)).bind _) _
      have htI := hBR.2.1.2 9
      have etot : (10 * (0 : Int) + 9).toNat = 9 := by decide
      rw [etot]
      -- the parts
      refine wp_bind (P := fun u : Nat × Int × Int × (Nat → Int) × Int × (Nat → Int) × (Nat → Int) × (Nat → Int) × (Nat → Int) × Int × Int × Int => u.2.2.2.1 = r2 ∧ ∃ P : Nat, u.2.2.2.2.1 = P ∧ P ≤ 36 ∧ CHN B t n (Rr r2) 134217728 (r2 9) P u.2.2.2.2.2.1 u.2.2.2.2.2.2.1 (pent u.2.2.2.2.2.2.2.1 u.2.2.2.2.2.2.2.2.1) ∧ ∀ i, i < P → (0 ≤ u.2.2.2.2.2.2.2.1 i ∧ u.2.2.2.2.2.2.2.1 i ≤ 60) ∧ (-1 ≤ u.2.2.2.2.2.2.2.2.1 i ∧ u.2.2.2.2.2.2.2.2.1 i < 8) ∧ (u.2.2.2.2.2.2.2.1 i = 60 → u.2.2.2.2.2.2.2.2.1 i = -1)) ?_ ?_
      · by_cases hlt : r2 9 < 134217728
        · refine wp_loop (fun i y => ∃ a K : Nat, y.1 = a ∧ y.2.1 = K ∧ K ≤ 9 ∧ a ≤ n ∧ i ≤ a ∧ y.2.2.1 = r2 ∧ y.2.2.2.1 = (i : Int) ∧ r2 (10 * a + K) < 134217728 ∧ (i = 0 → a = 0 ∧ K = 9) ∧ (∀ j, i = j + 1 → y.2.2.2.2.2.1 j = a ∧ kd (B 6) (pent y.2.2.2.2.2.2.1 y.2.2.2.2.2.2.2.1 j) = K) ∧ (∀ i', i' < i → LK B t n (Rr r2) 134217728 (r2 9) y.2.2.2.2.1 y.2.2.2.2.2.1 (pent y.2.2.2.2.2.2.1 y.2.2.2.2.2.2.2.1) i') ∧ ∀ i', i' < i → (0 ≤ y.2.2.2.2.2.2.1 i' ∧ y.2.2.2.2.2.2.1 i' ≤ 60) ∧ (-1 ≤ y.2.2.2.2.2.2.2.1 i' ∧ y.2.2.2.2.2.2.2.1 i' < 8) ∧ (y.2.2.2.2.2.2.1 i' = 60 → y.2.2.2.2.2.2.2.1 i' = -1)) n (by omega) ⟨0, 9, rfl, rfl, by omega, by omega, by omega, rfl, rfl, hlt, fun _ => ⟨rfl, rfl⟩, fun j h => absurd h (by omega), fun i' h => absurd h (by omega), fun i' h => absurd h (by omega)⟩ ?_
          intro i y hi hs
          obtain ⟨a, K, a1, a2, a3, a4, a5, a6, a7, a8, a9, a10, a11, a12⟩ := hs
          unfold m_X9_read_131
          refine wp_gd htI (wp_if (fun c => absurd c (by omega)) (fun _ => ?_))
          refine wp_gd (by omega) (wp_gd (by omega) (wp_if (fun c1 => ?_) (fun c1 => ?_)))
          · refine wp_end (by decide) ⟨a6, i, a7, by omega, ⟨by omega, a11, fun hz => ?_, fun hz => ?_⟩, a12⟩
            · obtain ⟨j, rfl⟩ : ∃ j, i = j + 1 := ⟨i - 1, by omega⟩
              refine ⟨?_, hlt⟩
              show y.2.2.2.2.2.1 (j + 1 - 1) = n
              rw [show j + 1 - 1 = j by omega, (a10 j rfl).1]
              omega
            · have := (a9 hz).1
              exact Or.inl (by omega)
          · have hP36 : i < 36 := by omega
            refine wp_bind (q_each1 hB hW hS hn (a := a) (by omega) hT hF hFi (s0 := (y.2.2.1, y.2.2.2.2.1, y.2.2.2.2.2.1, y.2.2.2.2.2.2.1, y.2.2.2.2.2.2.2.1, 0)) (P := i) (K := K) (by rw [a6]; exact hBR) rfl a1 eg eb en em a7 hP36 a1 a2 a3 (by show y.2.2.1 (10 * a + K) < 134217728; rw [a6]; exact a8)) ?_
            rintro ⟨z1, z2, z3, z4, z5, z6⟩ ⟨f1, e, b, f2, f3, f4, f5, f6⟩
            have f1 : z1 = y.2.2.1 := f1
            have f3 : z2 = uz y.2.2.2.2.1 i a := f3
            have f4 : z3 = uz y.2.2.2.2.2.1 i b := f4
            have f5 : z4 = uz y.2.2.2.2.2.2.1 i ((e : Int) / 9) := f5
            have f6 : z5 = uz y.2.2.2.2.2.2.2.1 i ((e : Int) % 9 - 1) := f6
            have f2 : FM B t n a y.2.2.1 K (y.2.2.1 (10 * a + K)) e b := f2
            rw [a6] at f2
            have f2 : FMG B t n a (Rr r2) 134217728 K (r2 (10 * a + K)) e b := f2
            have fin := FMG_in f2
            have hkb := kd_bd hW fin.2.2.1
            have ek : (((kd (B 6) e).toNat : Nat) : Int) = kd (B 6) e := by omega
            have hpe : ∀ i' : Nat, i' = i → pent z4 z5 i' = e := by
              intro i' h
              show 9 * z4 i' + z5 i' + 1 = e
              rw [h, f5, f6, uz_at, uz_at]
              omega
            have hpo : ∀ i' : Nat, i' ≠ i → pent z4 z5 i' = pent y.2.2.2.2.2.2.1 y.2.2.2.2.2.2.2.1 i' := by
              intro i' h
              show 9 * z4 i' + z5 i' + 1 = 9 * y.2.2.2.2.2.2.1 i' + y.2.2.2.2.2.2.2.1 i' + 1
              rw [f5, f6, uz_ne _ _ h, uz_ne _ _ h]
            have hki : m_X9_kindOf (z4 i) (B 6) = some (kd (B 6) e) := by
              have h9 := q_rkind (K := B 6) (w := (e : Int) / 9) (e := (e : Int) % 9 - 1) (by omega) (by omega) (by omega)
              rw [show 9 * ((e : Int) / 9) + ((e : Int) % 9 - 1) + 1 = e by omega] at h9
              rw [f5, uz_at]
              exact h9
            have ei : y.2.2.2.1.toNat = i := by omega
            show wp (gd (0 ≤ y.2.2.2.1 ∧ y.2.2.2.1 < 36) _) _
            rw [ei]
            refine wp_gd (by omega) (wp_vl (wp_gd (by omega) (wp_eq hki (wp_vl (wp_go ⟨by omega, b, (kd (B 6) e).toNat, ?_, ek.symm, by omega, fin.2.1, by omega, f1.trans a6, by show y.2.2.2.1 + 1 = _; omega, fin.2.2.2.2.1, fun z => absurd z (by omega), fun j hj => ?_, fun i' hi' => ?_, fun i' hi' => ?_⟩)))))
            · show z3 i = b
              rw [f4, uz_at]
            · have hji : j = i := by omega
              subst hji
              refine ⟨?_, ?_⟩
              · show z3 j = b
                rw [f4, uz_at]
              · show kd (B 6) (pent z4 z5 j) = _
                rw [hpe j rfl]
                exact ek.symm
            · show LK B t n (Rr r2) 134217728 (r2 9) z2 z3 (pent z4 z5) i'
              by_cases hii : i' = i
              · subst hii
                refine ⟨a, b, e, K, r2 (10 * a + K), by rw [f3, uz_at], by rw [f4, uz_at], hpe i' rfl, fun z => ?_, fun j hj => ?_, f2⟩
                · obtain ⟨z1', z2'⟩ := a9 z
                  refine ⟨z1', z2', ?_⟩
                  rw [z1', z2']
                · subst hj
                  obtain ⟨w1, w2⟩ := a10 j rfl
                  rw [f4, uz_ne _ _ (by omega), hpo j (by omega)]
                  exact ⟨w1, w2, rfl⟩
              · obtain ⟨a', b', e', K', w', g1', g2', g3', g4', g5', g6'⟩ := a11 i' (by omega)
                refine ⟨a', b', e', K', w', by rw [f3, uz_ne _ _ hii]; exact g1', by rw [f4, uz_ne _ _ hii]; exact g2', by rw [hpo i' hii]; exact g3', g4', fun j hj => ?_, g6'⟩
                rw [f4, uz_ne _ _ (by omega), hpo j (by omega)]
                exact g5' j hj
            · show (0 ≤ z4 i' ∧ z4 i' ≤ 60) ∧ (-1 ≤ z5 i' ∧ z5 i' < 8) ∧ (z4 i' = 60 → z5 i' = -1)
              by_cases hii : i' = i
              · rw [hii, f5, f6, uz_at, uz_at]
                omega
              · rw [f5, f6, uz_ne _ _ hii, uz_ne _ _ hii]
                exact a12 i' (by omega)
        · refine wp_loop (fun i y => y = (0, 9, r2, 0, pF, pT, pW, pE, found, f0, k0)) 0 (by omega) rfl ?_
          rintro i y hi rfl
          unfold m_X9_read_131
          refine wp_gd htI (wp_if (fun _ => ?_) (fun c => absurd (by omega) c))
          exact wp_end (by decide) ⟨rfl, 0, rfl, by omega, ⟨by omega, fun i' h => absurd h (by omega), fun h => absurd h (by omega), fun _ => Or.inr (by omega)⟩, fun i' h => absurd h (by omega)⟩
      · rintro ⟨t131, x1, x2, r3, pa, q2, q3, q4, q5, q6, q7, q8⟩ ⟨h1, P, h2, h3, h4, h5⟩
        have h1 : r3 = r2 := h1
        subst h1
        unfold m_X9_read_206
        refine wp_bind (q_readAhead hB hW hS hn hT hF hFi hah eg eb en em) ?_
        intro ah2 hAH
        exact wp_some ⟨rfl, rfl, rfl, rfl, rfl, P, h2, h3, hBR, rfl, h4, h5, hAH⟩
end
section
/-! the class's leads and tails -/
def ldS (B : Nat → Nat → Int) (tails : Nat → Int) (a k : Nat) (x : Int) : Prop := (a = 0 ∧ x = 0) ∨ ∃ j : Nat, j ≤ 8 ∧ tails (9 * a + j) < 268435456 ∧ x = tails (9 * a + j) + stp B j k
/-- the line up to b, of what was gone through: places ahead of a, and from a the ends and kinds that were seen -/
def TLq (B : Nat → Nat → Int) (t : Nat → Int) (n : Nat) (leads : Nat → Int) (a cb ck b k : Nat) (x : Int) : Prop := ∃ (a' e : Nat) (c : Int), (a' < a ∨ (a' = a ∧ seen cb ck b k)) ∧ PC B t n a' b e c ∧ kd (B 6) e = k ∧ leads (9 * a' + k) < 268435456 ∧ x = leads (9 * a' + k) + c
def TB (n : Nat) (tails : Nat → Int) : Prop := (∀ b k : Nat, b ≤ n → k ≤ 8 → (tails (9 * b + k) = 268435456 ∨ (-(4000 * (b : Int)) ≤ tails (9 * b + k) ∧ tails (9 * b + k) ≤ 4000 * (b : Int)))) ∧ ∀ i, inI (tails i)
def JT (B : Nat → Nat → Int) (t : Nat → Int) (n : Nat) (leads t0 : Nat → Int) (a cb ck : Nat) (tails : Nat → Int) : Prop := TB n tails ∧ (∀ i, i < 9 * (a + 1) → tails i = t0 i) ∧ ∀ b k : Nat, 1 ≤ b → b ≤ n → k ≤ 8 → Lst (TLq B t n leads a cb ck b k) 268435456 (tails (9 * b + k))
theorem JT.same {B : Nat → Nat → Int} {t : Nat → Int} {n : Nat} {leads t0 : Nat → Int} {a cb ck cb' ck' : Nat} {tails : Nat → Int} (h : JT B t n leads t0 a cb ck tails) (hS : ∀ b k, k ≤ 8 → ∀ x, TLq B t n leads a cb' ck' b k x ↔ TLq B t n leads a cb ck b k x) : JT B t n leads t0 a cb' ck' tails := ⟨h.1, h.2.1, fun b k h1 h2 h3 => (h.2.2 b k h1 h2 h3).iff (hS b k h3)⟩
theorem TLq_iff {B : Nat → Nat → Int} {t : Nat → Int} {n : Nat} {leads : Nat → Int} {a cb ck cb' ck' b k : Nat} {x : Int} (h : ∀ (e : Nat) (c : Int), PC B t n a b e c → kd (B 6) e = k → leads (9 * a + k) < 268435456 → (seen cb' ck' b k ↔ seen cb ck b k)) : TLq B t n leads a cb' ck' b k x ↔ TLq B t n leads a cb ck b k x := by
  constructor
  · rintro ⟨a', e, c, h0, h1, h2, h3, h4⟩
    refine ⟨a', e, c, ?_, h1, h2, h3, h4⟩
    rcases h0 with h0 | ⟨h0, h5⟩
    · exact Or.inl h0
    · subst h0
      exact Or.inr ⟨rfl, (h e c h1 h2 h3).mp h5⟩
  · rintro ⟨a', e, c, h0, h1, h2, h3, h4⟩
    refine ⟨a', e, c, ?_, h1, h2, h3, h4⟩
    rcases h0 with h0 | ⟨h0, h5⟩
    · exact Or.inl h0
    · subst h0
      exact Or.inr ⟨rfl, (h e c h1 h2 h3).mpr h5⟩
set_option maxHeartbeats 2000000 in
theorem q_goOn {B : Nat → Nat → Int} {t : Nat → Int} (hB : GB B) (hW : GW B) {n : Nat} (hn : n ≤ 36) (hX : FXC B n) {fv vals : Nat → Int} (hF : FV B t n fv) (hV : ∀ b, 1 ≤ b → b ≤ n → COL B t (B 18 0).toNat b vals) {a : Nat} (ha : a < n) (hpa : a = 0 ∨ B 17 a ≠ 2) {tails leads : Nat → Int} (hLd : ∀ k : Nat, k ≤ 8 → leads (9 * a + k) = 268435456 ∨ (-(4000 * (a : Int)) - 100 ≤ leads (9 * a + k) ∧ leads (9 * a + k) ≤ 4000 * (a : Int) + 100)) (hLI : ∀ i, inI (leads i)) (hJ : JT B t n leads tails a 0 0 tails) {x1 sl : Int} (e1 : x1 = a) (es : sl = n) :
    wp (m_X2_goOn x1 (B 6) tails leads fv sl (B 17) (B 19) vals) (fun u => JT B t n leads tails a (n + 1) 0 u) := by
  unfold m_X2_goOn
  refine wp_bind (q_reachFrom hB hn ha e1 es) ?_
  rintro r ⟨R, rfl, r1, r2, r3, r4⟩
  have hreach : ∀ b, a < b → b ≤ n → LT B n a b → b ≤ R := by
    intro b hab hbn hl
    by_cases h : b ≤ R
    · exact h
    · exfalso
      rcases r4 with r4 | r4
      · omega
      · exact hl.2.2 R r1 (by omega) r4
  refine wp_vl (wp_bind (P := fun u : Nat × Int × (Nat → Int) => JT B t n leads tails a (R + 1) 0 u.2.2) (wp_loop (fun j y => y.1 = ((a + 1 + j : Nat) : Int) ∧ JT B t n leads tails a (a + 1 + j) 0 y.2) (R - a) (by omega) ⟨by show x1 + 1 = _; omega, hJ.same (fun b k hk x => TLq_iff (fun e c h1 _ _ => ?_))⟩ ?_) ?_)
  · have := h1.1
    unfold seen
    omega
  · intro j y hj hs
    obtain ⟨a1, a2⟩ := hs
    unfold m_X2_goOn_13
    refine wp_gd (by omega) (wp_gd (by omega) (wp_if (fun c2 => ?_) (fun c2 => ?_)))
    · refine wp_end (by decide) ?_
      show JT B t n leads tails a (R + 1) 0 y.2
      rw [show R + 1 = a + 1 + j by omega]
      exact a2
    · obtain ⟨b, eb⟩ : ∃ b, b = a + 1 + j := ⟨_, rfl⟩
      rw [← eb] at a1 a2
      have hbR : b ≤ R := by omega
      refine wp_bind (P := fun u : Nat × Int × (Nat → Int) => JT B t n leads tails a (b + 1) 0 u.2.2) (wp_loop (fun k d => d.1 = (k : Int) ∧ JT B t n leads tails a b k d.2) 9 (by omega) ⟨rfl, a2⟩ ?_) ?_
      · intro k d hk hsd
        obtain ⟨d1, d2⟩ := hsd
        unfold m_X2_goOn_21
        refine wp_gd (by omega) (wp_if (fun c3 => ?_) (fun c3 => ?_))
        · refine wp_end (by decide) (d2.same (fun b' k' hk' x => TLq_iff (fun e c _ _ _ => ?_)))
          unfold seen
          omega
        · refine wp_bind (q_partsAt hB hn (p := b) (by omega) a1 es) ?_
          intro r5 hr5
          refine wp_gd (by omega) (wp_if (fun c4 => ?_) (fun c4 => ?_))
          · have hno : ¬ (b = 0 ∨ b = n ∨ B 17 b ≠ 2) := by
              rcases hr5 with ⟨z, _⟩ | ⟨_, z⟩
              · omega
              · exact z
            refine wp_end (by decide) (d2.same (fun b' k' hk' x => TLq_iff (fun e c h1 _ _ => ?_)))
            have hb : b' ≠ b := by
              intro z
              subst z
              rcases (PC_LT h1).2.1 with h | h
              · exact hno (Or.inr (Or.inl h))
              · exact hno (Or.inr (Or.inr h))
            unfold seen
            omega
          · have hlt : LT B n a b := by
              refine ⟨hpa, ?_, fun p h1 h2 => r3 p h1 (by omega)⟩
              rcases hr5 with ⟨_, z⟩ | ⟨z, _⟩
              · rcases z with z | z | z
                · omega
                · exact Or.inl z
                · exact Or.inr z
              · omega
            have hnext : (∀ (e : Nat) (c : Int), PC B t n a b e c → kd (B 6) e = k → ¬ leads (9 * a + k) < 268435456) → JT B t n leads tails a b (k + 1) d.2 := by
              intro hno
              refine d2.same (fun b' k' hk' x => TLq_iff (fun e c h1 h2 h3 => ?_))
              by_cases hz : b' = b ∧ k' = k
              · obtain ⟨rfl, rfl⟩ := hz
                exact absurd h3 (hno e c h1 h2)
              · unfold seen
                omega
            refine wp_bind (q_valueOf hB hW hn hX hF hV (a := a) (b := b) (k := k) (by omega) (by omega) (by omega) e1 a1 d1) ?_
            intro v hv
            have hvb : v = 2147483647 ∨ (-400000 ≤ v ∧ v ≤ 4000000) := by
              by_cases h : v = 2147483647
              · exact Or.inl h
              · exact Or.inr (VV_bd hB hW (hv.mem h))
            have el : (x1 * 9 + d.1).toNat = 9 * a + k := by omega
            rw [el]
            have hlb := hLd k (by omega)
            refine wp_gd (by omega) (wp_vl (wp_gd (by omega) (wp_if (fun c5 => ?_) (fun c5 => ?_))))
            · refine wp_vl (wp_go ⟨by omega, by show d.1 + 1 = _; omega, hnext (fun e c h1 h2 => ?_)⟩)
              rw [c5] at hv
              exact absurd (VV_none hv h1 h2) id
            · refine wp_gd (hLI _) (wp_if (fun c6 => ?_) (fun c6 => ?_))
              · exact wp_vl (wp_go ⟨by omega, by show d.1 + 1 = _; omega, hnext (fun e c h1 h2 => by omega)⟩)
              · obtain ⟨e0, p1, p2, p3, p4⟩ := VV_least (n := n) (by omega) (by omega) hlt hv c5
                have hcb := CL_bd hB hW p1.2.1 p1.2.2.2.1
                have et : (y.1 * 9 + d.1).toNat = 9 * b + k := by omega
                have htb := d2.1.1 b k (by omega) (by omega)
                refine wp_vl ?_
                rw [et]
                refine wp_gd (by omega) (wp_gd (d2.1.2 _) (wp_gd (by omega) (wp_gd (by omega) (wp_vl (wp_vl (wp_go ⟨by omega, by show d.1 + 1 = _; omega, ⟨fun b' k' h1 h2 => ?_, uz_inI d2.1.2 (by omega)⟩, fun i hi => ?_, fun b' k' h1 h2 h3 => ?_⟩))))))
                · show uz d.2 (9 * b + k) (min (d.2 (9 * b + k)) (leads (9 * a + k) + v / 1024)) (9 * b' + k') = 268435456 ∨ (-(4000 * (b' : Int)) ≤ uz d.2 (9 * b + k) (min (d.2 (9 * b + k)) (leads (9 * a + k) + v / 1024)) (9 * b' + k') ∧ uz d.2 (9 * b + k) (min (d.2 (9 * b + k)) (leads (9 * a + k) + v / 1024)) (9 * b' + k') ≤ 4000 * (b' : Int))
                  by_cases hz : b' = b ∧ k' = k
                  · obtain ⟨rfl, rfl⟩ := hz
                    rw [uz_at]
                    omega
                  · rw [uz_ne _ _ (by omega)]
                    exact d2.1.1 b' k' h1 h2
                · show uz d.2 (9 * b + k) _ i = _
                  rw [uz_ne _ _ (by omega)]
                  exact d2.2.1 i hi
                · show Lst _ 268435456 (uz d.2 (9 * b + k) (min (d.2 (9 * b + k)) (leads (9 * a + k) + v / 1024)) (9 * b' + k'))
                  by_cases hz : b' = b ∧ k' = k
                  · obtain ⟨rfl, rfl⟩ := hz
                    rw [uz_at]
                    refine Lst.dom ((d2.2.2 b' k' h1 h2 h3).push (S' := fun x => TLq B t n leads a b' k' b' k' x ∨ x = leads (9 * a + k') + v / 1024) (by omega) (fun x => Iff.rfl)) ?_ ?_
                    · rintro x (⟨a', e, c, h0, h4⟩ | rfl)
                      · refine ⟨a', e, c, ?_, h4⟩
                        unfold seen at h0 ⊢
                        omega
                      · exact ⟨a, e0, v / 1024, Or.inr ⟨rfl, Or.inr ⟨rfl, by omega⟩⟩, p1, p3, by omega, rfl⟩
                    · rintro x ⟨a', e, c, h0, h4, h5, h6, h7⟩
                      by_cases haa : a' = a
                      · subst haa
                        have := (p4 e c h4 h5).1
                        exact ⟨_, Or.inr rfl, by omega⟩
                      · refine ⟨x, Or.inl ⟨a', e, c, Or.inl ?_, h4, h5, h6, h7⟩, Int.le_refl _⟩
                        omega
                  · rw [uz_ne _ _ (by omega)]
                    refine (d2.2.2 b' k' h1 h2 h3).iff (fun x => TLq_iff (fun e c _ _ _ => ?_))
                    unfold seen
                    omega
      · rintro ⟨t21, y4, hd⟩ hu
        refine wp_vl (wp_go ⟨by omega, by show y.1 + 1 = _; omega, ?_⟩)
        rw [show a + 1 + (j + 1) = b + 1 by omega]
        exact hu
  · rintro ⟨t13, y3, hd⟩ hu
    have hu : JT B t n leads tails a (R + 1) 0 hd := hu
    refine wp_some (hu.same (fun b k hk x => TLq_iff (fun e c h1 _ _ => ?_)))
    have h2 := h1.1
    have := hreach b h1.1.1 h1.1.2 (PC_LT h1)
    unfold seen
    omega
end
section
/-! the class's leads, whole; beside the reference's costs ahead -/
theorem ldS_eq {B : Nat → Nat → Int} {f g : Nat → Int} {a k : Nat} (h : ∀ j, j ≤ 8 → f (9 * a + j) = g (9 * a + j)) {x : Int} : ldS B f a k x ↔ ldS B g a k x := by
  constructor
  · rintro (h1 | ⟨j, h1, h2, h3⟩)
    · exact Or.inl h1
    · rw [h j h1] at h2 h3
      exact Or.inr ⟨j, h1, h2, h3⟩
  · rintro (h1 | ⟨j, h1, h2, h3⟩)
    · exact Or.inl h1
    · rw [← h j h1] at h2 h3
      exact Or.inr ⟨j, h1, h2, h3⟩
set_option maxHeartbeats 2000000 in
theorem q_fillLeads {B : Nat → Nat → Int} (hS : GS B) {n a : Nat} (hn : n ≤ 36) (ha : a < n) {tails leads sc : Nat → Int} (hsc : SCo B sc) (hT : TB n tails) (hz : ∀ k, k ≤ 8 → tails k = 268435456) (hLI : ∀ i, inI (leads i)) {x1 : Int} (e1 : x1 = a) :
    wp (m_X2_fillLeads x1 sc tails leads) (fun u => (∀ k : Nat, k ≤ 8 → Lst (ldS B tails a k) 268435456 (u (9 * a + k)) ∧ (u (9 * a + k) = 268435456 ∨ (-(4000 * (a : Int)) - 100 ≤ u (9 * a + k) ∧ u (9 * a + k) ≤ 4000 * (a : Int) + 100))) ∧ (∀ i, (i < 9 * a ∨ 9 * (a + 1) ≤ i) → u i = leads i) ∧ ∀ i, inI (u i)) := by
  have hone : ∀ (k : Nat) (x2 t0 : Int) (ld : Nat → Int), k ≤ 8 → x2 = k → ((a = 0 ∧ t0 = 0) ∨ (a ≠ 0 ∧ t0 = 268435456)) → wp (zloop (fun y => m_X2_fillLeads_22 x1 x2 y.1 y.2 sc tails ld) FU (t0, 0)) (fun u => Lst (ldS B tails a k) 268435456 u.2.1 ∧ (u.2.1 = 268435456 ∨ (-(4000 * (a : Int)) - 100 ≤ u.2.1 ∧ u.2.1 ≤ 4000 * (a : Int) + 100))) := by
    intro k x2 t0 ld hk e2 ht0
    refine wp_loop (fun j y => y.2 = (j : Int) ∧ Lst (fun x => (a = 0 ∧ x = 0) ∨ ∃ j' : Nat, j' < j ∧ tails (9 * a + j') < 268435456 ∧ x = tails (9 * a + j') + stp B j' k) 268435456 y.1 ∧ (y.1 = 268435456 ∨ (-(4000 * (a : Int)) - 100 ≤ y.1 ∧ y.1 ≤ 4000 * (a : Int) + 100))) 9 (by omega) ⟨rfl, ?_, by show t0 = 268435456 ∨ _; omega⟩ ?_
    · show Lst _ 268435456 t0
      rcases ht0 with ⟨h1, h2⟩ | ⟨h1, h2⟩
      · rw [h2]
        refine Or.inr ⟨by decide, Or.inl ⟨h1, rfl⟩, ?_⟩
        rintro x (⟨_, h3⟩ | ⟨j', h3, _⟩)
        · omega
        · omega
      · rw [h2]
        refine Lst.none ?_
        rintro x (⟨h3, _⟩ | ⟨j', h3, _⟩)
        · exact h1 h3
        · omega
    · intro j y hj hs
      obtain ⟨a1, a2, a3⟩ := hs
      unfold m_X2_fillLeads_22
      refine wp_gd (by omega) (wp_if (fun c1 => ?_) (fun c1 => ?_))
      · refine wp_end (by decide) ⟨a2.iff (fun x => ?_), a3⟩
        constructor
        · rintro (h1 | ⟨j', h1, h2⟩)
          · exact Or.inl h1
          · exact Or.inr ⟨j', by omega, h2⟩
        · rintro (h1 | ⟨j', h1, h2⟩)
          · exact Or.inl h1
          · exact Or.inr ⟨j', by omega, h2⟩
      · have et : (x1 * 9 + y.2).toNat = 9 * a + j := by omega
        have htb := hT.1 a j (by omega) (by omega)
        rw [et]
        refine wp_gd (by omega) (wp_vl (wp_gd (hT.2 _) (wp_if (fun c2 => ?_) (fun c2 => ?_))))
        · refine wp_vl (wp_go ⟨by omega, by show y.2 + 1 = _; omega, a2.iff (fun x => ?_), a3⟩)
          constructor
          · rintro (h1 | ⟨j', h1, h2, h3⟩)
            · exact Or.inl h1
            · have : j' ≠ j := fun z => by rw [z] at h2; omega
              exact Or.inr ⟨j', by omega, h2, h3⟩
          · rintro (h1 | ⟨j', h1, h2⟩)
            · exact Or.inl h1
            · exact Or.inr ⟨j', by omega, h2⟩
        · have ec : (y.2 * 9 + x2).toNat = 9 * j + k := by omega
          have hst := stp_bd hS (k := (j : Int)) (j := (k : Int)) (by omega) (by omega)
          rw [ec, hsc j k (by omega) hk]
          refine wp_gd (by omega) (wp_gd (by omega) (wp_gd (by omega) (wp_vl (wp_vl (wp_go ⟨by omega, by show y.2 + 1 = _; omega, ?_, ?_⟩)))))
          · refine a2.push (by omega) (fun x => ?_)
            constructor
            · rintro (h1 | ⟨j', h1, h2, h3⟩)
              · exact Or.inl (Or.inl h1)
              · by_cases hjj : j' = j
                · subst hjj
                  exact Or.inr h3
                · exact Or.inl (Or.inr ⟨j', by omega, h2, h3⟩)
            · rintro ((h1 | ⟨j', h1, h2⟩) | rfl)
              · exact Or.inl h1
              · exact Or.inr ⟨j', by omega, h2⟩
              · exact Or.inr ⟨j, by omega, by omega, rfl⟩
          · show min y.1 (tails (9 * a + j) + stp B j k) = 268435456 ∨ (-(4000 * (a : Int)) - 100 ≤ min y.1 (tails (9 * a + j) + stp B j k) ∧ min y.1 (tails (9 * a + j) + stp B j k) ≤ 4000 * (a : Int) + 100)
            omega
  unfold m_X2_fillLeads
  refine wp_bind (P := fun u : Nat × Int × (Nat → Int) => (∀ k : Nat, k ≤ 8 → Lst (ldS B tails a k) 268435456 (u.2.2 (9 * a + k)) ∧ (u.2.2 (9 * a + k) = 268435456 ∨ (-(4000 * (a : Int)) - 100 ≤ u.2.2 (9 * a + k) ∧ u.2.2 (9 * a + k) ≤ 4000 * (a : Int) + 100))) ∧ (∀ i, (i < 9 * a ∨ 9 * (a + 1) ≤ i) → u.2.2 i = leads i) ∧ ∀ i, inI (u.2.2 i)) (wp_loop (fun k y => y.1 = (k : Int) ∧ (∀ k' : Nat, k' < k → k' ≤ 8 → Lst (ldS B tails a k') 268435456 (y.2 (9 * a + k')) ∧ (y.2 (9 * a + k') = 268435456 ∨ (-(4000 * (a : Int)) - 100 ≤ y.2 (9 * a + k') ∧ y.2 (9 * a + k') ≤ 4000 * (a : Int) + 100))) ∧ (∀ i, (i < 9 * a ∨ 9 * (a + 1) ≤ i) → y.2 i = leads i) ∧ ∀ i, inI (y.2 i)) 9 (by omega) ⟨rfl, fun k' h => absurd h (by omega), fun i _ => rfl, hLI⟩ ?_) ?_
  · intro k y hk hs
    obtain ⟨a1, a2, a3, a4⟩ := hs
    have h18 : ∀ t0 : Int, k ≤ 8 → ((a = 0 ∧ t0 = 0) ∨ (a ≠ 0 ∧ t0 = 268435456)) → wp (m_X2_fillLeads_18 x1 y.1 t0 sc tails y.2) (fun u : Nat × Int × (Nat → Int) => u.1 = 0 ∧ u.2.1 = ((k + 1 : Nat) : Int) ∧ (∀ k' : Nat, k' < k + 1 → k' ≤ 8 → Lst (ldS B tails a k') 268435456 (u.2.2 (9 * a + k')) ∧ (u.2.2 (9 * a + k') = 268435456 ∨ (-(4000 * (a : Int)) - 100 ≤ u.2.2 (9 * a + k') ∧ u.2.2 (9 * a + k') ≤ 4000 * (a : Int) + 100))) ∧ (∀ i, (i < 9 * a ∨ 9 * (a + 1) ≤ i) → u.2.2 i = leads i) ∧ ∀ i, inI (u.2.2 i)) := by
      intro t0 hk8 ht0
      unfold m_X2_fillLeads_18
      refine wp_bind (hone k y.1 t0 y.2 hk8 a1 ht0) ?_
      rintro ⟨t22, y3, y4⟩ ⟨u1, u2⟩
      have u1 : Lst (ldS B tails a k) 268435456 y3 := u1
      have u2 : y3 = 268435456 ∨ (-(4000 * (a : Int)) - 100 ≤ y3 ∧ y3 ≤ 4000 * (a : Int) + 100) := u2
      have eh : (x1 * 9 + y.1).toNat = 9 * a + k := by omega
      rw [eh]
      refine wp_gd (by omega) (wp_vl (wp_vl (wp_some ⟨rfl, by show y.1 + 1 = _; omega, fun k' h1 h2 => ?_, fun i hi => ?_, uz_inI a4 (by omega)⟩)))
      · show Lst _ 268435456 (uz y.2 (9 * a + k) y3 (9 * a + k')) ∧ (uz y.2 (9 * a + k) y3 (9 * a + k') = 268435456 ∨ (-(4000 * (a : Int)) - 100 ≤ uz y.2 (9 * a + k) y3 (9 * a + k') ∧ uz y.2 (9 * a + k) y3 (9 * a + k') ≤ 4000 * (a : Int) + 100))
        by_cases hkk : k' = k
        · subst hkk
          rw [uz_at]
          exact ⟨u1, u2⟩
        · rw [uz_ne _ _ (by omega)]
          exact a2 k' (by omega) h2
      · show uz y.2 (9 * a + k) y3 i = _
        rw [uz_ne _ _ (by omega)]
        exact a3 i hi
    unfold m_X2_fillLeads_2
    refine wp_gd (by omega) (wp_if (fun c1 => ?_) (fun c1 => ?_))
    · exact wp_end (by decide) ⟨fun k' hk' => a2 k' (by omega) hk', a3, a4⟩
    · refine wp_gd (by omega) (wp_if (fun c2 => ?_) (fun c2 => ?_))
      · refine wp_mono (h18 0 (by omega) (Or.inl ⟨by omega, rfl⟩)) ?_
        rintro u ⟨u1, u2⟩
        exact ⟨fun _ => ⟨by omega, u2⟩, fun z => absurd u1 z⟩
      · refine wp_mono (h18 268435456 (by omega) (Or.inr ⟨by omega, rfl⟩)) ?_
        rintro u ⟨u1, u2⟩
        exact ⟨fun _ => ⟨by omega, u2⟩, fun z => absurd u1 z⟩
  · rintro ⟨t2, y2, rr⟩ hu
    exact wp_some hu
/-- what the class knows of the line ahead of each place -/
def LDC (B : Nat → Nat → Int) (t : Nat → Int) (n : Nat) (tails leads : Nat → Int) : Prop := TB n tails ∧ (∀ i, inI (leads i)) ∧ (∀ k, k ≤ 8 → tails k = 268435456) ∧ (∀ a k : Nat, a < n → k ≤ 8 → Lst (ldS B tails a k) 268435456 (leads (9 * a + k)) ∧ (leads (9 * a + k) = 268435456 ∨ (-(4000 * (a : Int)) - 100 ≤ leads (9 * a + k) ∧ leads (9 * a + k) ≤ 4000 * (a : Int) + 100))) ∧ ∀ b k : Nat, 1 ≤ b → b ≤ n → k ≤ 8 → Lst (fun x => ∃ (a e : Nat) (c : Int), PC B t n a b e c ∧ kd (B 6) e = k ∧ leads (9 * a + k) < 268435456 ∧ x = leads (9 * a + k) + c) 268435456 (tails (9 * b + k))
set_option maxHeartbeats 2000000 in
theorem q_allLeads {B : Nat → Nat → Int} {t : Nat → Int} (hB : GB B) (hW : GW B) (hS : GS B) {n : Nat} (hn : n ≤ 36) (hX : FXC B n) {fv vals : Nat → Int} (hF : FV B t n fv) (hV : ∀ b, 1 ≤ b → b ≤ n → COL B t (B 18 0).toNat b vals) {tails leads sc : Nat → Int} (hsc : SCo B sc) (hTI : ∀ i, inI (tails i)) (hLI : ∀ i, inI (leads i)) {known sl : Int} (es : sl = n) (hkn : known = 0 ∨ (known = 1 ∧ LDC B t n tails leads)) :
    wp (m_X2_fillAllLeads (B 6) sc tails leads known fv sl (B 17) (B 19) vals) (fun u => LDC B t n u.1 u.2.1 ∧ u.2.2 = 1) := by
  unfold m_X2_fillAllLeads
  refine wp_gd (by omega) (wp_if (fun c1 => ?_) (fun c1 => ?_))
  · refine wp_eq (q_fill (by decide)) ?_
    have hf : ∀ i, i < 333 → fz tails 0 333 268435456 i = 268435456 := fun i hi => fz_in _ _ (by omega)
    refine wp_bind (P := fun u : Nat × Int × (Nat → Int) × (Nat → Int) => LDC B t n u.2.2.1 u.2.2.2) (wp_loop (fun a y => y.1 = (a : Int) ∧ TB n y.2.1 ∧ (∀ i, inI (y.2.2 i)) ∧ (∀ k, k ≤ 8 → y.2.1 k = 268435456) ∧ (∀ a' k : Nat, a' < a → k ≤ 8 → Lst (ldS B y.2.1 a' k) 268435456 (y.2.2 (9 * a' + k)) ∧ (y.2.2 (9 * a' + k) = 268435456 ∨ (-(4000 * (a' : Int)) - 100 ≤ y.2.2 (9 * a' + k) ∧ y.2.2 (9 * a' + k) ≤ 4000 * (a' : Int) + 100))) ∧ ∀ b k : Nat, 1 ≤ b → b ≤ n → k ≤ 8 → Lst (TLq B t n y.2.2 a 0 0 b k) 268435456 (y.2.1 (9 * b + k))) n (by omega) ⟨rfl, ⟨fun b k h1 h2 => Or.inl (hf _ (by omega)), fz_inI hTI (by decide)⟩, hLI, fun k hk => hf k (by omega), fun a' k h => absurd h (by omega), fun b k h1 h2 h3 => ?_⟩ ?_) ?_
    · show Lst _ 268435456 (fz tails 0 333 268435456 (9 * b + k))
      rw [hf _ (by omega)]
      refine Lst.none ?_
      rintro x ⟨a', e, c, h0, _⟩
      unfold seen at h0
      omega
    · intro a y ha hs
      obtain ⟨a1, a2, a3, a4, a5, a6⟩ := hs
      unfold m_X2_fillAllLeads_24
      refine wp_gd (by omega) (wp_gd (by omega) (wp_if (fun c2 => ?_) (fun c2 => ?_)))
      · have han : a = n := by omega
        subst han
        refine wp_end (by decide) ⟨a2, a3, a4, a5, fun b k h1 h2 h3 => (a6 b k h1 h2 h3).iff (fun x => ?_)⟩
        constructor
        · rintro ⟨a', e, c, h4, h5⟩
          have := h4.1
          exact ⟨a', e, c, Or.inl (by omega), h4, h5⟩
        · rintro ⟨a', e, c, _, h4⟩
          exact ⟨a', e, c, h4⟩
      · refine wp_bind (q_fillLeads hS hn (a := a) (by omega) hsc a2 a4 a3 a1) ?_
        rintro ld ⟨l1, l2, l3⟩
        have hld : ∀ a' k : Nat, a' < a → k ≤ 8 → ld (9 * a' + k) = y.2.2 (9 * a' + k) := fun a' k h1 h2 => l2 _ (by omega)
        have hsets : ∀ b k : Nat, k ≤ 8 → ∀ x, TLq B t n ld a 0 0 b k x ↔ TLq B t n y.2.2 a 0 0 b k x := by
          intro b k hk x
          constructor
          · rintro ⟨a', e, c, h0, h1, h2, h3, h4⟩
            have haa : a' < a := by
              unfold seen at h0
              omega
            rw [hld a' k haa hk] at h3 h4
            exact ⟨a', e, c, Or.inl haa, h1, h2, h3, h4⟩
          · rintro ⟨a', e, c, h0, h1, h2, h3, h4⟩
            have haa : a' < a := by
              unfold seen at h0
              omega
            rw [← hld a' k haa hk] at h3 h4
            exact ⟨a', e, c, Or.inl haa, h1, h2, h3, h4⟩
        have hJ0 : JT B t n ld y.2.1 a 0 0 y.2.1 := ⟨a2, fun i _ => rfl, fun b k h1 h2 h3 => (a6 b k h1 h2 h3).iff (hsets b k h3)⟩
        have hleads : ∀ (tl : Nat → Int), (∀ i, i < 9 * (a + 1) → tl i = y.2.1 i) → ∀ a' k : Nat, a' < a + 1 → k ≤ 8 → Lst (ldS B tl a' k) 268435456 (ld (9 * a' + k)) ∧ (ld (9 * a' + k) = 268435456 ∨ (-(4000 * (a' : Int)) - 100 ≤ ld (9 * a' + k) ∧ ld (9 * a' + k) ≤ 4000 * (a' : Int) + 100)) := by
          intro tl htl a' k h1 h2
          by_cases haa : a' = a
          · subst haa
            exact ⟨(l1 k h2).1.iff (fun x => ldS_eq (fun j hj => htl _ (by omega))), (l1 k h2).2⟩
          · rw [hld a' k (by omega) h2]
            exact ⟨(a5 a' k (by omega) h2).1.iff (fun x => ldS_eq (fun j hj => htl _ (by omega))), (a5 a' k (by omega) h2).2⟩
        refine wp_bind (q_partsAt hB hn (p := a) (by omega) a1 es) ?_
        intro r hr
        refine wp_gd (by omega) (wp_if (fun c3 => ?_) (fun c3 => ?_))
        · have hno : ¬ (a = 0 ∨ a = n ∨ B 17 a ≠ 2) := by
            rcases hr with ⟨z, _⟩ | ⟨_, z⟩
            · omega
            · exact z
          refine wp_vl (wp_go ⟨by omega, by show y.1 + 1 = _; omega, a2, l3, a4, hleads _ (fun i _ => rfl), fun b k h1 h2 h3 => (hJ0.2.2 b k h1 h2 h3).iff (fun x => ?_)⟩)
          constructor
          · rintro ⟨a', e, c, h0, h4, h5⟩
            refine ⟨a', e, c, Or.inl ?_, h4, h5⟩
            have hle : a' ≤ a := by
              unfold seen at h0
              omega
            by_cases haa : a' = a
            · subst haa
              exfalso
              rcases (PC_LT h4).1 with z | z
              · exact hno (Or.inl z)
              · exact hno (Or.inr (Or.inr z))
            · omega
          · rintro ⟨a', e, c, h0, h4⟩
            refine ⟨a', e, c, Or.inl ?_, h4⟩
            unfold seen at h0
            omega
        · have hpa : a = 0 ∨ B 17 a ≠ 2 := by
            rcases hr with ⟨_, z⟩ | ⟨z, _⟩
            · rcases z with z | z | z
              · exact Or.inl z
              · omega
              · exact Or.inr z
            · omega
          refine wp_bind (q_goOn hB hW hn hX hF hV (a := a) (by omega) hpa (fun k hk => (l1 k hk).2) l3 hJ0 a1 es) ?_
          rintro tl ⟨t1, t2, t3⟩
          refine wp_vl (wp_go ⟨by omega, by show y.1 + 1 = _; omega, t1, l3, fun k hk => (t2 k (by omega)).trans (a4 k hk), hleads _ t2, fun b k h1 h2 h3 => (t3 b k h1 h2 h3).iff (fun x => ?_)⟩)
          constructor
          · rintro ⟨a', e, c, h0, h4, h5⟩
            have hbn := h4.1
            refine ⟨a', e, c, ?_, h4, h5⟩
            unfold seen at h0 ⊢
            omega
          · rintro ⟨a', e, c, h0, h4⟩
            refine ⟨a', e, c, Or.inl ?_, h4⟩
            unfold seen at h0
            omega
    · rintro ⟨t24, y1, tl, ld⟩ hu
      exact wp_some ⟨hu, rfl⟩
  · rcases hkn with z | ⟨z, hd⟩
    · exact absurd z c1
    · exact wp_some ⟨hd, z⟩
/-- both sides' costs ahead are the same -/
theorem leads_agree {B : Nat → Nat → Int} {t : Nat → Int} {n : Nat} {tails leads ah : Nat → Int} (h1 : LDC B t n tails leads) (h2 : AHD B t n ah) : ∀ a : Nat, a < n → ∀ k : Nat, k ≤ 8 → ∀ v, Lst (fwd B ah a k) 134217728 v → (leads (9 * a + k) = 268435456 ∧ v = 134217728) ∨ (leads (9 * a + k) = v ∧ leads (9 * a + k) < 268435456 ∧ v < 134217728) := by
  have key : ∀ a : Nat, a ≤ n → ∀ k : Nat, k ≤ 8 → ∀ x : Int, a < n → (ldS B tails a k x ↔ fwd B ah a k x) := by
    intro a
    induction a using Nat.strongRecOn with
    | ind a ih =>
      intro han k hk x han2
      by_cases h0 : a = 0
      · subst h0
        constructor
        · rintro (⟨_, h3⟩ | ⟨j, h3, h4, _⟩)
          · refine ⟨9, by omega, ?_, ?_⟩
            · show ah (10 * 0 + 9) < 134217728
              rw [show 10 * 0 + 9 = 9 by omega, h2.2.1]
              decide
            · rw [show 10 * 0 + 9 = 9 by omega, h2.2.1, h3]
              unfold stp
              rw [if_pos (show ((9 : Nat) : Int) = 9 from rfl)]
              rfl
          · have := h1.2.2.1 j h3
            rw [show 9 * 0 + j = j by omega] at h4
            omega
        · rintro ⟨k', h3, h4, h5⟩
          by_cases hk9 : k' = 9
          · subst hk9
            rw [show 10 * 0 + 9 = 9 by omega, h2.2.1] at h5
            refine Or.inl ⟨rfl, ?_⟩
            rw [h5]
            unfold stp
            rw [if_pos (show ((9 : Nat) : Int) = 9 from rfl)]
            rfl
          · have := h2.2.2.1 k' (by omega)
            rw [show 10 * 0 + k' = k' by omega] at h4
            omega
      · have htail : ∀ j : Nat, j ≤ 8 → (tails (9 * a + j) = 268435456 ∧ ah (10 * a + j) = 134217728) ∨ (tails (9 * a + j) = ah (10 * a + j) ∧ tails (9 * a + j) < 268435456 ∧ ah (10 * a + j) < 134217728) := by
          intro j hj
          have l1 := h1.2.2.2.2 a j (by omega) han hj
          have l2 := h2.2.2.2.2 a j (by omega) han hj
          have l3 : Lst (fun x => ∃ (a' e : Nat) (c : Int), PC B t n a' a e c ∧ kd (B 6) e = j ∧ leads (9 * a' + j) < 268435456 ∧ x = leads (9 * a' + j) + c) 134217728 (ah (10 * a + j)) := by
            rcases l2 with ⟨z1, z2⟩ | ⟨z1, z2, z3⟩
            · refine Or.inl ⟨z1, ?_⟩
              rintro x ⟨a', e, c, g1, g2, g3, g4⟩
              have g5 := g1.1
              have g6 := (h1.2.2.2.1 a' j (by omega) hj).1.mem (by omega)
              exact z2 _ ⟨a', e, c, leads (9 * a' + j), g1, g2, (ih a' g5.1 (by omega) j hj _ (by omega)).mp g6, rfl⟩
            · refine Or.inr ⟨z1, ?_, ?_⟩
              · obtain ⟨a', e, c, y, g1, g2, g3, g4⟩ := z2
                have g5 := g1.1
                have g6 := (ih a' g5.1 (by omega) j hj _ (by omega)).mpr g3
                have g7 := (h1.2.2.2.1 a' j (by omega) hj).1.le g6
                have g8 := (h1.2.2.2.1 a' j (by omega) hj).1.mem (by omega)
                have g9 := z3 _ ⟨a', e, c, leads (9 * a' + j), g1, g2, (ih a' g5.1 (by omega) j hj _ (by omega)).mp g8, rfl⟩
                exact ⟨a', e, c, g1, g2, g7.2, by omega⟩
              · rintro x ⟨a', e, c, g1, g2, g3, g4⟩
                have g5 := g1.1
                have g6 := (h1.2.2.2.1 a' j (by omega) hj).1.mem (by omega)
                exact z3 _ ⟨a', e, c, leads (9 * a' + j), g1, g2, (ih a' g5.1 (by omega) j hj _ (by omega)).mp g6, g4⟩
          rcases l1.two l3 with h | ⟨g1, g2, g3, _⟩
          · exact Or.inl h
          · exact Or.inr ⟨g1, g2, g3⟩
        constructor
        · rintro (⟨z, _⟩ | ⟨j, h3, h4, h5⟩)
          · exact absurd z h0
          · rcases htail j h3 with ⟨z, _⟩ | ⟨z1, z2, z3⟩
            · omega
            · exact ⟨j, by omega, z3, by rw [← z1]; exact h5⟩
        · rintro ⟨k', h3, h4, h5⟩
          by_cases hk9 : k' = 9
          · subst hk9
            have := h2.2.2.2.1 a (by omega) han
            omega
          · rcases htail k' (by omega) with ⟨_, z⟩ | ⟨z1, z2, z3⟩
            · omega
            · exact Or.inr ⟨k', by omega, z2, by rw [z1]; exact h5⟩
  intro a han k hk v hv
  have l1 := (h1.2.2.2.1 a k han hk).1
  have l2 : Lst (ldS B tails a k) 134217728 v := hv.iff (fun x => key a (by omega) k hk x han)
  rcases l1.two l2 with h | ⟨g1, g2, g3, _⟩
  · exact Or.inl h
  · exact Or.inr ⟨g1, g2, g3⟩
end
section
/-! a list of choices: one more is put in -/
abbrev oL : Type := Nat × (Nat → Int) × (Nat → Int)
/-- l2 is l1 with the entry x at the cost v put behind all that cost as much, at most twelve -/
def INS (l1 : oL) (x v : Int) (l2 : oL) : Prop := ∃ p : Nat, p ≤ l1.1 ∧ (p = 0 ∨ l1.2.2 (p - 1) ≤ v) ∧ (∀ i, p ≤ i → i < l1.1 → v < l1.2.2 i) ∧ ((12 ≤ p ∧ l2.1 = l1.1 ∧ ∀ i, i < l1.1 → l2.2.1 i = l1.2.1 i ∧ l2.2.2 i = l1.2.2 i) ∨ (p < 12 ∧ l2.1 = min (l1.1 + 1) 12 ∧ ∀ i, i < l2.1 → (i < p → l2.2.1 i = l1.2.1 i ∧ l2.2.2 i = l1.2.2 i) ∧ (i = p → l2.2.1 i = x ∧ l2.2.2 i = v) ∧ (p < i → l2.2.1 i = l1.2.1 (i - 1) ∧ l2.2.2 i = l1.2.2 (i - 1))))
def oEq (l1 l2 : oL) : Prop := l1.1 = l2.1 ∧ ∀ i, i < l1.1 → l1.2.1 i = l2.2.1 i ∧ l1.2.2 i = l2.2.2 i
theorem INS_one {l1 l2 m1 m2 : oL} {x v : Int} (h12 : l1.1 ≤ 12) (h : oEq l1 m1) (hl : INS l1 x v l2) (hm : INS m1 x v m2) : oEq l2 m2 := by
  obtain ⟨p, a1, a2, a3, a4⟩ := hl
  obtain ⟨q, b1, b2, b3, b4⟩ := hm
  obtain ⟨e1, e2⟩ := h
  have hpq : p = q := by
    rcases Nat.lt_trichotomy p q with hlt | heq | hgt
    · exfalso
      have h1 := a3 (q - 1) (by omega) (by omega)
      rcases b2 with z | z
      · omega
      · have h2 := (e2 (q - 1) (by omega)).2
        omega
    · exact heq
    · exfalso
      have h1 := b3 (p - 1) (by omega) (by omega)
      rcases a2 with z | z
      · omega
      · have h2 := (e2 (p - 1) (by omega)).2
        omega
  subst hpq
  rcases a4 with ⟨c1, c2, c3⟩ | ⟨c1, c2, c3⟩
  · rcases b4 with ⟨d1, d2, d3⟩ | ⟨d1, _⟩
    · refine ⟨by omega, fun i hi => ?_⟩
      have f1 := c3 i (by omega)
      have f2 := d3 i (by omega)
      have f3 := e2 i (by omega)
      rw [f1.1, f1.2, f2.1, f2.2]
      exact f3
    · omega
  · rcases b4 with ⟨d1, _⟩ | ⟨d1, d2, d3⟩
    · omega
    · refine ⟨by omega, fun i hi => ?_⟩
      have f1 := c3 i hi
      have f2 := d3 i (by omega)
      rcases Nat.lt_trichotomy i p with hlt | heq | hgt
      · have f3 := e2 i (by omega)
        rw [(f1.1 hlt).1, (f1.1 hlt).2, (f2.1 hlt).1, (f2.1 hlt).2]
        exact f3
      · rw [(f1.2.1 heq).1, (f1.2.1 heq).2, (f2.2.1 heq).1, (f2.2.1 heq).2]
        exact ⟨rfl, rfl⟩
      · have f3 := e2 (i - 1) (by omega)
        rw [(f1.2.2 hgt).1, (f1.2.2 hgt).2, (f2.2.2 hgt).1, (f2.2.2 hgt).2]
        exact f3
/-- a row moved up by one behind a place -/
def shf (f : Nat → Int) (p m : Nat) : Nat → Int := fun i => if p < i ∧ i < m then f (i - 1) else f i
set_option maxHeartbeats 2000000 in
theorem q_offerIn {len : Nat} {E C : Nat → Int} (hlen : len ≤ 12) (hC : ∀ i, inI (C i)) {x v ln : Int} (hv : inI v) (el : ln = len) (K ld rs : Nat → Int) :
    wp ((zloop (fun a => m_X2_offer_78 x v a K ld ln E C rs) FU ln).bind fun (_, x9) => m_X2_offer_103 x v x9 K ld ln E C rs) (fun u => ∃ len' : Nat, u.1 = len' ∧ len' ≤ 12 ∧ INS (len, E, C) x v (len', u.2.1, u.2.2) ∧ ((∀ i, inI (u.2.2 i)))) := by
  refine wp_bind (P := fun u : Nat × Int => ∃ p : Nat, u.2 = p ∧ p ≤ len ∧ (p = 0 ∨ C (p - 1) ≤ v) ∧ ∀ i, p ≤ i → i < len → v < C i) (wp_loop (fun k y => y = ((len - k : Nat) : Int) ∧ k ≤ len ∧ ∀ i, len - k ≤ i → i < len → v < C i) len (by omega) ⟨by omega, by omega, fun i h1 h2 => absurd h1 (by omega)⟩ ?_) ?_
  · intro k y hk hs
    obtain ⟨a1, a2, a3⟩ := hs
    unfold m_X2_offer_78
    refine wp_gd (by omega) (wp_if (fun c1 => ?_) (fun c1 => ?_))
    · exact wp_end (by decide) ⟨len - k, a1, by omega, Or.inl (by omega), a3⟩
    · rw [show (y - 1).toNat = len - k - 1 by omega]
      refine wp_gd (by omega) (wp_gd (hC _) (wp_gd hv (wp_if (fun c2 => ?_) (fun c2 => ?_))))
      · exact wp_end (by decide) ⟨len - k, a1, by omega, Or.inr c2, a3⟩
      · refine wp_vl (wp_go ⟨by omega, by show y + -1 = _; omega, by omega, fun i h1 h2 => ?_⟩)
        by_cases h : i = len - k - 1
        · rw [h]
          omega
        · exact a3 i (by omega) h2
  · rintro ⟨t78, x9⟩ ⟨p, e9, p1, p2, p3⟩
    have e9 : x9 = p := e9
    show wp (m_X2_offer_103 x v x9 K ld ln E C rs) _
    unfold m_X2_offer_103
    refine wp_gd (by omega) (wp_if (fun c1 => ?_) (fun c1 => ?_))
    · obtain ⟨m, em⟩ : ∃ m : Nat, m = min (len + 1) 12 := ⟨_, rfl⟩
      have hm : min (ln + 1) 12 = (m : Int) := by omega
      refine wp_gd (by omega) (wp_vl (wp_vl ?_))
      rw [hm]
      refine wp_bind (P := fun u : Nat × Int × (Nat → Int) × (Nat → Int) => u.2.2.1 = shf E p m ∧ u.2.2.2 = shf C p m) (wp_loop (fun k y => y.1 = (m : Int) - 1 - k ∧ y.2.1 = shf E (max p (m - 1 - k)) m ∧ y.2.2 = shf C (max p (m - 1 - k)) m) (m - 1 - p) (by omega) ⟨by show (m : Int) - 1 = _; omega, ?_, ?_⟩ ?_) ?_
      · funext i
        unfold shf
        rw [if_neg (by omega)]
      · funext i
        unfold shf
        rw [if_neg (by omega)]
      · intro k y hk hs
        obtain ⟨a1, a2, a3⟩ := hs
        unfold m_X2_offer_134
        refine wp_gd (by omega) (wp_gd (by omega) (wp_if (fun c2 => ?_) (fun c2 => ?_)))
        · refine wp_end (by decide) ?_
          rw [show max p (m - 1 - k) = p by omega] at a2 a3
          exact ⟨a2, a3⟩
        · have e1 : y.1.toNat = m - 1 - k := by omega
          have e2 : (y.1 - 1).toNat = m - 1 - k - 1 := by omega
          have hsh : ∀ f : Nat → Int, uz (shf f (max p (m - 1 - k)) m) (m - 1 - k) (shf f (max p (m - 1 - k)) m (m - 1 - k - 1)) = shf f (max p (m - 1 - (k + 1))) m := by
            intro f
            funext i
            have h0 : shf f (max p (m - 1 - k)) m (m - 1 - k - 1) = f (m - 1 - k - 1) := by
              unfold shf
              rw [if_neg (by omega)]
            rw [h0]
            unfold uz shf
            by_cases hi : i = m - 1 - k
            · rw [if_pos hi, if_pos (by omega), hi]
            · rw [if_neg hi]
              by_cases h3 : max p (m - 1 - k) < i ∧ i < m
              · rw [if_pos h3, if_pos (by omega)]
              · rw [if_neg h3, if_neg (by omega)]
          rw [e1, e2, a2, a3]
          refine wp_gd (by omega) (wp_gd (by omega) (wp_vl (wp_gd (by omega) (wp_gd (by omega) (wp_vl (wp_vl (wp_go ⟨by omega, by show y.1 + -1 = _; omega, hsh E, hsh C⟩)))))))
      · rintro ⟨t134, y10, E2, C2⟩ ⟨g1, g2⟩
        have g1 : E2 = shf E p m := g1
        have g2 : C2 = shf C p m := g2
        subst g1
        subst g2
        rw [show x9.toNat = p by omega]
        refine wp_gd (by omega) (wp_vl (wp_gd (by omega) (wp_vl (wp_some ⟨m, rfl, by omega, ⟨p, p1, p2, p3, Or.inr ⟨by omega, em, fun i hi => ?_⟩⟩, fun i => ?_⟩))))
        · have hi : i < m := hi
          refine ⟨fun h => ?_, fun h => ?_, fun h => ?_⟩
          · show uz (shf E p m) p x i = E i ∧ uz (shf C p m) p v i = C i
            rw [uz_ne _ _ (by omega), uz_ne _ _ (by omega)]
            unfold shf
            rw [if_neg (by omega), if_neg (by omega)]
            exact ⟨rfl, rfl⟩
          · show uz (shf E p m) p x i = x ∧ uz (shf C p m) p v i = v
            rw [h, uz_at, uz_at]
            exact ⟨rfl, rfl⟩
          · show uz (shf E p m) p x i = E (i - 1) ∧ uz (shf C p m) p v i = C (i - 1)
            rw [uz_ne _ _ (by omega), uz_ne _ _ (by omega)]
            unfold shf
            rw [if_pos ⟨h, hi⟩, if_pos ⟨h, hi⟩]
            exact ⟨rfl, rfl⟩
        · show inI (uz (shf C p m) p v i)
          refine uz_inI (fun j => ?_) hv i
          unfold shf
          by_cases h : p < j ∧ j < m
          · rw [if_pos h]
            exact hC _
          · rw [if_neg h]
            exact hC _
    · exact wp_some ⟨len, el, hlen, ⟨p, p1, p2, p3, Or.inl ⟨by omega, rfl, fun i _ => ⟨rfl, rfl⟩⟩⟩, hC⟩
end
section
/-! the reference's put; offers and choices as one list -/
set_option maxHeartbeats 2000000 in
theorem q_put {len : Nat} {cW cE cC : Nat → Int} (hlen : len ≤ 12) (hC : ∀ i, inI (cC i)) {w e v ch : Int} (hv : inI v) (el : ch = len) :
    wp (m_X9_put w e v cW cE cC ch) (fun u => ∃ len' : Nat, u.2.2.2 = len' ∧ len' ≤ 12 ∧ INS (len, pent cW cE, cC) (9 * w + e + 1) v (len', pent u.1 u.2.1, u.2.2.1) ∧ (∀ i, inI (u.2.2.1 i)) ∧ (∀ i, i < len' → ((u.1 i = w ∧ u.2.1 i = e) ∨ ∃ j, j < len ∧ u.1 i = cW j ∧ u.2.1 i = cE j))) := by
  unfold m_X9_put
  refine wp_bind (P := fun u : Nat × Int => ∃ p : Nat, u.2 = p ∧ p ≤ len ∧ (p = 0 ∨ cC (p - 1) ≤ v) ∧ ∀ i, p ≤ i → i < len → v < cC i) (wp_loop (fun k y => y = ((len - k : Nat) : Int) ∧ k ≤ len ∧ ∀ i, len - k ≤ i → i < len → v < cC i) len (by omega) ⟨by omega, by omega, fun i h1 h2 => absurd h1 (by omega)⟩ ?_) ?_
  · intro k y hk hs
    obtain ⟨a1, a2, a3⟩ := hs
    unfold m_X9_put_6
    refine wp_gd (by omega) (wp_if (fun c1 => ?_) (fun c1 => ?_))
    · exact wp_end (by decide) ⟨len - k, a1, by omega, Or.inl (by omega), a3⟩
    · rw [show (y - 1).toNat = len - k - 1 by omega]
      refine wp_gd (by omega) (wp_gd (hC _) (wp_gd hv (wp_if (fun c2 => ?_) (fun c2 => ?_))))
      · exact wp_end (by decide) ⟨len - k, a1, by omega, Or.inr c2, a3⟩
      · refine wp_vl (wp_go ⟨by omega, by show y + -1 = _; omega, by omega, fun i h1 h2 => ?_⟩)
        by_cases h : i = len - k - 1
        · rw [h]
          omega
        · exact a3 i (by omega) h2
  · rintro ⟨t6, x4⟩ ⟨p, e4, p1, p2, p3⟩
    have e4 : x4 = p := e4
    show wp (m_X9_put_30 w e v x4 cW cE cC ch) _
    unfold m_X9_put_30
    have main : ∀ (c2 : Int) (m : Nat), m = min (len + 1) 12 → c2 = m → p < 12 → wp (m_X9_put_57 w e v x4 cW cE cC c2) (fun u => ∃ len' : Nat, u.2.2.2 = len' ∧ len' ≤ 12 ∧ INS (len, pent cW cE, cC) (9 * w + e + 1) v (len', pent u.1 u.2.1, u.2.2.1) ∧ (∀ i, inI (u.2.2.1 i)) ∧ (∀ i, i < len' → ((u.1 i = w ∧ u.2.1 i = e) ∨ ∃ j, j < len ∧ u.1 i = cW j ∧ u.2.1 i = cE j))) := by
      intro c2 m em ec hp12
      unfold m_X9_put_57
      refine wp_vl (wp_bind (P := fun u : Nat × Int × (Nat → Int) × (Nat → Int) × (Nat → Int) => u.2.2.1 = shf cW p m ∧ u.2.2.2.1 = shf cE p m ∧ u.2.2.2.2 = shf cC p m) (wp_loop (fun k y => y.1 = (m : Int) - 1 - k ∧ y.2.1 = shf cW (max p (m - 1 - k)) m ∧ y.2.2.1 = shf cE (max p (m - 1 - k)) m ∧ y.2.2.2 = shf cC (max p (m - 1 - k)) m) (m - 1 - p) (by omega) ⟨by show c2 - 1 = _; omega, ?_, ?_, ?_⟩ ?_) ?_)
      · funext i
        unfold shf
        rw [if_neg (by omega)]
      · funext i
        unfold shf
        rw [if_neg (by omega)]
      · funext i
        unfold shf
        rw [if_neg (by omega)]
      · intro k y hk hs
        obtain ⟨a1, a2, a3, a4⟩ := hs
        unfold m_X9_put_65
        refine wp_gd (by omega) (wp_gd (by omega) (wp_if (fun c3 => ?_) (fun c3 => ?_)))
        · refine wp_end (by decide) ?_
          rw [show max p (m - 1 - k) = p by omega] at a2 a3 a4
          exact ⟨a2, a3, a4⟩
        · have e1 : y.1.toNat = m - 1 - k := by omega
          have e2 : (y.1 - 1).toNat = m - 1 - k - 1 := by omega
          have hsh : ∀ f : Nat → Int, uz (shf f (max p (m - 1 - k)) m) (m - 1 - k) (shf f (max p (m - 1 - k)) m (m - 1 - k - 1)) = shf f (max p (m - 1 - (k + 1))) m := by
            intro f
            funext i
            have h0 : shf f (max p (m - 1 - k)) m (m - 1 - k - 1) = f (m - 1 - k - 1) := by
              unfold shf
              rw [if_neg (by omega)]
            rw [h0]
            unfold uz shf
            by_cases hi : i = m - 1 - k
            · rw [if_pos hi, if_pos (by omega), hi]
            · rw [if_neg hi]
              by_cases h3 : max p (m - 1 - k) < i ∧ i < m
              · rw [if_pos h3, if_pos (by omega)]
              · rw [if_neg h3, if_neg (by omega)]
          rw [e1, e2, a2, a3, a4]
          exact wp_gd (by omega) (wp_gd (by omega) (wp_vl (wp_gd (by omega) (wp_gd (by omega) (wp_vl (wp_gd (by omega) (wp_gd (by omega) (wp_vl (wp_vl (wp_go ⟨by omega, by show y.1 + -1 = _; omega, hsh cW, hsh cE, hsh cC⟩))))))))))
      · rintro ⟨t65, y5, W2, E2, C2⟩ ⟨g1, g2, g3⟩
        have g1 : W2 = shf cW p m := g1
        have g2 : E2 = shf cE p m := g2
        have g3 : C2 = shf cC p m := g3
        subst g1
        subst g2
        subst g3
        rw [show x4.toNat = p by omega]
        refine wp_gd (by omega) (wp_vl (wp_gd (by omega) (wp_vl (wp_gd (by omega) (wp_vl (wp_some ⟨m, ec, by omega, ⟨p, p1, p2, p3, Or.inr ⟨hp12, em, fun i hi => ?_⟩⟩, fun i => ?_, fun i hi => ?_⟩))))))
        · have hi : i < m := hi
          refine ⟨fun h => ?_, fun h => ?_, fun h => ?_⟩
          · show 9 * uz (shf cW p m) p w i + uz (shf cE p m) p e i + 1 = 9 * cW i + cE i + 1 ∧ uz (shf cC p m) p v i = cC i
            rw [uz_ne _ _ (by omega), uz_ne _ _ (by omega), uz_ne _ _ (by omega)]
            unfold shf
            rw [if_neg (by omega), if_neg (by omega), if_neg (by omega)]
            exact ⟨rfl, rfl⟩
          · show 9 * uz (shf cW p m) p w i + uz (shf cE p m) p e i + 1 = 9 * w + e + 1 ∧ uz (shf cC p m) p v i = v
            rw [h, uz_at, uz_at, uz_at]
            exact ⟨rfl, rfl⟩
          · show 9 * uz (shf cW p m) p w i + uz (shf cE p m) p e i + 1 = 9 * cW (i - 1) + cE (i - 1) + 1 ∧ uz (shf cC p m) p v i = cC (i - 1)
            rw [uz_ne _ _ (by omega), uz_ne _ _ (by omega), uz_ne _ _ (by omega)]
            unfold shf
            rw [if_pos ⟨h, hi⟩, if_pos ⟨h, hi⟩, if_pos ⟨h, hi⟩]
            exact ⟨rfl, rfl⟩
        · show inI (uz (shf cC p m) p v i)
          refine uz_inI (fun j => ?_) hv i
          unfold shf
          by_cases h : p < j ∧ j < m
          · rw [if_pos h]
            exact hC _
          · rw [if_neg h]
            exact hC _
        · show (uz (shf cW p m) p w i = w ∧ uz (shf cE p m) p e i = e) ∨ ∃ j, j < len ∧ uz (shf cW p m) p w i = cW j ∧ uz (shf cE p m) p e i = cE j
          by_cases h : i = p
          · rw [h, uz_at, uz_at]
            exact Or.inl ⟨rfl, rfl⟩
          · rw [uz_ne _ _ h, uz_ne _ _ h]
            unfold shf
            by_cases h2 : p < i ∧ i < m
            · rw [if_pos h2, if_pos h2]
              exact Or.inr ⟨i - 1, by omega, rfl, rfl⟩
            · rw [if_neg h2, if_neg h2]
              exact Or.inr ⟨i, by omega, rfl, rfl⟩
    refine wp_gd (by omega) (wp_if (fun c1 => ?_) (fun c1 => ?_))
    · refine wp_some ⟨len, el, hlen, ⟨p, p1, p2, p3, Or.inl ⟨by omega, rfl, fun i _ => ⟨rfl, rfl⟩⟩⟩, hC, fun i hi => Or.inr ⟨i, hi, rfl, rfl⟩⟩
    · refine wp_gd (by omega) (wp_if (fun c2 => ?_) (fun c2 => ?_))
      · exact main ch 12 (by omega) (by omega) (by omega)
      · exact wp_vl (main (ch + 1) (len + 1) (by omega) (by omega) (by omega))
/-- the lists that come of going through the entries in their order; VL: an entry's whole cost -/
def OFS (VL : Nat → Int → Prop) (k : Nat) (l : oL) : Prop := ∃ sq : Nat → oL, (sq 0).1 = 0 ∧ (∀ i, i < k → (∃ v, VL i v ∧ INS (sq i) i v (sq (i + 1))) ∨ ((∀ v, ¬ VL i v) ∧ oEq (sq (i + 1)) (sq i))) ∧ oEq (sq k) l ∧ ∀ i, i ≤ k → (sq i).1 ≤ 12
theorem oEq.rfl' {l : oL} : oEq l l := ⟨rfl, fun _ _ => ⟨rfl, rfl⟩⟩
theorem oEq.symm {l m : oL} (h : oEq l m) : oEq m l := ⟨h.1.symm, fun i hi => ⟨(h.2 i (by rw [h.1]; exact hi)).1.symm, (h.2 i (by rw [h.1]; exact hi)).2.symm⟩⟩
theorem oEq.trans {l m n : oL} (h : oEq l m) (g : oEq m n) : oEq l n := ⟨h.1.trans g.1, fun i hi => ⟨(h.2 i hi).1.trans (g.2 i (by rw [← h.1]; exact hi)).1, (h.2 i hi).2.trans (g.2 i (by rw [← h.1]; exact hi)).2⟩⟩
theorem OFS_one {VL VL' : Nat → Int → Prop} (hv : ∀ i v, VL i v ↔ VL' i v) (hu : ∀ i v v', VL i v → VL i v' → v = v') {k : Nat} {l l' : oL} (h : OFS VL k l) (h' : OFS VL' k l') : oEq l l' := by
  obtain ⟨sq, a1, a2, a3, a4⟩ := h
  obtain ⟨sq', b1, b2, b3, b4⟩ := h'
  have key : ∀ i, i ≤ k → oEq (sq i) (sq' i) := by
    intro i
    induction i with
    | zero =>
      intro _
      exact ⟨by rw [a1, b1], fun i hi => by omega⟩
    | succ i ih =>
      intro hi
      have hq := ih (by omega)
      rcases a2 i (by omega) with ⟨v, c1, c2⟩ | ⟨c1, c2⟩
      · rcases b2 i (by omega) with ⟨v', d1, d2⟩ | ⟨d1, d2⟩
        · have : v = v' := hu i v v' c1 ((hv i v').mpr d1)
          subst this
          exact INS_one (a4 i (by omega)) hq c2 d2
        · exact absurd ((hv i v).mp c1) (d1 v)
      · rcases b2 i (by omega) with ⟨v', d1, d2⟩ | ⟨d1, d2⟩
        · exact absurd ((hv i v').mpr d1) (c1 v')
        · exact (c2.trans hq).trans d2.symm
  exact (a3.symm.trans (key k (Nat.le_refl k))).trans b3
theorem OFS.put {VL : Nat → Int → Prop} {k : Nat} {l l' : oL} (h : OFS VL k l) (h12 : l'.1 ≤ 12) (hs : (∃ v, VL k v ∧ INS l k v l') ∨ ((∀ v, ¬ VL k v) ∧ oEq l' l)) (hl : l.1 ≤ 12) : OFS VL (k + 1) l' := by
  obtain ⟨sq, a1, a2, a3, a4⟩ := h
  refine ⟨fun i => if i ≤ k then sq i else l', ?_, fun i hi => ?_, ?_, fun i hi => ?_⟩
  · show (if 0 ≤ k then sq 0 else l').1 = 0
    rw [if_pos (Nat.zero_le k)]
    exact a1
  · show (∃ v, VL i v ∧ INS (if i ≤ k then sq i else l') i v (if i + 1 ≤ k then sq (i + 1) else l')) ∨ ((∀ v, ¬ VL i v) ∧ oEq (if i + 1 ≤ k then sq (i + 1) else l') (if i ≤ k then sq i else l'))
    rw [if_pos (by omega)]
    by_cases hk : i + 1 ≤ k
    · rw [if_pos hk]
      exact a2 i (by omega)
    · rw [if_neg hk]
      have hik : i = k := by omega
      subst hik
      rcases hs with ⟨v, c1, p, d1, d2, d3, d4⟩ | ⟨c1, c2⟩
      · refine Or.inl ⟨v, c1, ?_⟩
        obtain ⟨e1, e2⟩ := a3
        refine ⟨p, by omega, ?_, fun j h1 h2 => ?_, ?_⟩
        · rcases d2 with z | z
          · exact Or.inl z
          · by_cases hp : p = 0
            · exact Or.inl hp
            · exact Or.inr (by rw [(e2 (p - 1) (by omega)).2]; exact z)
        · rw [(e2 j h2).2]
          exact d3 j h1 (by omega)
        · rcases d4 with ⟨f1, f2, f3⟩ | ⟨f1, f2, f3⟩
          · refine Or.inl ⟨f1, by omega, fun j hj => ?_⟩
            rw [(e2 j hj).1, (e2 j hj).2]
            exact f3 j (by omega)
          · refine Or.inr ⟨f1, by rw [e1]; exact f2, fun j hj => ?_⟩
            have f4 := f3 j hj
            refine ⟨fun h => ?_, f4.2.1, fun h => ?_⟩
            · rw [(e2 j (by omega)).1, (e2 j (by omega)).2]
              exact f4.1 h
            · rw [(e2 (j - 1) (by omega)).1, (e2 (j - 1) (by omega)).2]
              exact f4.2.2 h
      · exact Or.inr ⟨c1, c2.trans a3.symm⟩
  · show oEq (if k + 1 ≤ k then sq (k + 1) else l') l'
    rw [if_neg (by omega)]
    exact oEq.rfl'
  · show (if i ≤ k then sq i else l').1 ≤ 12
    by_cases hk : i ≤ k
    · rw [if_pos hk]
      exact a4 i hk
    · rw [if_neg hk]
      exact h12
end
section
/-! the class's offers -/
def LC (B : Nat → Nat → Int) (t : Nat → Int) (e : Int) (a b : Nat) (c : Int) : Prop := CL B t e a b c ∧ ∀ x, CL B t e a b x → c ≤ x
/-- what the line would cost with an entry over a stretch -/
def VL (B : Nat → Nat → Int) (t : Nat → Int) (a b : Nat) (L R : Nat → Int) (fl fr : Int) (i : Nat) (v : Int) : Prop := EV B i ∧ ∃ c, LC B t i a b c ∧ L (kd (B 6) i).toNat < fl ∧ R (kd (B 6) i).toNat < fr ∧ v = L (kd (B 6) i).toNat + c + R (kd (B 6) i).toNat
theorem VL_one {B : Nat → Nat → Int} {t : Nat → Int} {a b : Nat} {L R : Nat → Int} {fl fr : Int} : ∀ i v v', VL B t a b L R fl fr i v → VL B t a b L R fl fr i v' → v = v' := by
  rintro i v v' ⟨_, c, h1, _, _, h2⟩ ⟨_, c', g1, _, _, g2⟩
  have h3 := h1.2 _ g1.1
  have h4 := g1.2 _ h1.1
  omega
theorem OFS.skip {VL : Nat → Int → Prop} {l : oL} (hl : l.1 ≤ 12) : ∀ (d k : Nat), OFS VL k l → (∀ i, k ≤ i → i < k + d → ∀ v, ¬ VL i v) → OFS VL (k + d) l := by
  intro d
  induction d with
  | zero => intro k h _; exact h
  | succ d ih =>
    intro k h hno
    have h1 := ih k h (fun i g1 g2 => hno i g1 (by omega))
    exact h1.put hl (Or.inr ⟨hno (k + d) (by omega) (by omega), oEq.rfl'⟩) hl
set_option maxHeartbeats 1000000 in
theorem q_offer {B : Nat → Nat → Int} {t : Nat → Int} (hB : GB B) (hW : GW B) {n a b k : Nat} (hn : n ≤ 36) (hab : a < b) (hbn : b ≤ n) {leads rests : Nat → Int} (hLI : ∀ i, inI (leads i)) (hLb : ∀ j : Nat, j ≤ 8 → leads (9 * a + j) = 268435456 ∨ (-200000 ≤ leads (9 * a + j) ∧ leads (9 * a + j) ≤ 200000)) (hR : RBc n 0 rests) {len : Nat} {E C : Nat → Int} (hlen : len ≤ 12) (hC : ∀ i, inI (C i)) (hev : EV B k) {cost : Int} (hc : Lst (CL B t k a b) 268435456 cost) {x1 x3 x4 ln : Int} (e1 : x1 = k) (e3 : x3 = a) (e4 : x4 = b) (el : ln = len) (hO : OFS (VL B t a b (fun j => leads (9 * a + j)) (fun j => rests (9 * b + j)) 268435456 268435456) k (len, E, C)) :
    wp (m_X2_offer x1 cost x3 x4 (B 6) leads ln E C rests) (fun u => ∃ len' : Nat, u.1 = len' ∧ len' ≤ 12 ∧ OFS (VL B t a b (fun j => leads (9 * a + j)) (fun j => rests (9 * b + j)) 268435456 268435456) (k + 1) (len', u.2.1, u.2.2) ∧ ∀ i, inI (u.2.2 i)) := by
  have hkb := kd_bd hW hev
  have hk540 : k ≤ 540 := by rcases hev with z | z <;> omega
  obtain ⟨K, eK⟩ : ∃ K : Nat, kd (B 6) k = K := ⟨(kd (B 6) k).toNat, by omega⟩
  have eKn : (kd (B 6) k).toNat = K := by omega
  have hcI : cost = 268435456 ∨ (-300 ≤ cost ∧ cost ≤ 3000) := by
    rcases hc with ⟨z, _⟩ | ⟨_, z, _⟩
    · exact Or.inl z
    · have := CL_bd hB hW hev z
      omega
  have hlb := hLb K (by omega)
  have hrb := hR.1 b K (by omega) hbn (by omega)
  have hsame : (∀ v, ¬ VL B t a b (fun j => leads (9 * a + j)) (fun j => rests (9 * b + j)) 268435456 268435456 k v) → ∃ len' : Nat, ln = len' ∧ len' ≤ 12 ∧ OFS (VL B t a b (fun j => leads (9 * a + j)) (fun j => rests (9 * b + j)) 268435456 268435456) (k + 1) (len', E, C) ∧ ∀ i, inI (C i) := fun hno => ⟨len, el, hlen, hO.put hlen (Or.inr ⟨hno, oEq.rfl'⟩) hlen, hC⟩
  unfold m_X2_offer
  rw [e1]
  refine wp_eq (q_kindOf (by omega)) ?_
  rw [eK, show (x3 * 9 + (K : Int)).toNat = 9 * a + K by omega, show (x4 * 9 + (K : Int)).toNat = 9 * b + K by omega]
  refine wp_gd (by omega) (wp_vl (wp_gd (by omega) (wp_vl (wp_gd (by omega) (wp_if (fun c1 => ?_) (fun c1 => ?_))))))
  · refine wp_some (hsame ?_)
    rintro v ⟨_, c, h1, _⟩
    rw [c1] at hc
    exact hc.no _ h1.1
  · refine wp_gd (hLI _) (wp_if (fun c2 => ?_) (fun c2 => ?_))
    · refine wp_some (hsame ?_)
      rintro v ⟨_, c, _, h2, _⟩
      have h2 : leads (9 * a + (kd (B 6) k).toNat) < 268435456 := h2
      rw [eKn] at h2
      omega
    · refine wp_gd (hR.2 _) (wp_if (fun c3 => ?_) (fun c3 => ?_))
      · refine wp_vl ?_
        have hvI : inI (leads (9 * a + K) + cost + rests (9 * b + K)) := by omega
        refine wp_mono (q_offerIn (x := (k : Int)) hlen hC hvI el (B 6) leads rests) ?_
        rintro u ⟨len', g1, g2, g3, g4⟩
        refine ⟨len', g1, g2, hO.put g2 (Or.inl ⟨leads (9 * a + K) + cost + rests (9 * b + K), ⟨hev, cost, ⟨hc.mem c1, fun x hx => (hc.le hx).1⟩, ?_, ?_, ?_⟩, g3⟩) hlen, g4⟩
        · show leads (9 * a + (kd (B 6) k).toNat) < 268435456
          rw [eKn]
          omega
        · show rests (9 * b + (kd (B 6) k).toNat) < 268435456
          rw [eKn]
          omega
        · show _ = leads (9 * a + (kd (B 6) k).toNat) + cost + rests (9 * b + (kd (B 6) k).toNat)
          rw [eKn]
      · refine wp_some (hsame ?_)
        rintro v ⟨_, c, _, _, h3, _⟩
        have h3 : rests (9 * b + (kd (B 6) k).toNat) < 268435456 := h3
        rw [eKn] at h3
        omega
theorem q_goes {B : Nat → Nat → Int} (hB : GB B) (hW : GW B) {w j : Nat} (hw : (w : Int) < B 18 0) (hj : (j : Int) ≤ B 18 1) {x1 x2 : Int} (e1 : x1 = w) (e2 : x2 = (j : Int) - 1) : wp (m_X1_goesTogether x1 x2 (B 7) (B 18 1) (B 11)) (fun v => (v = 1 ∧ EV B ((9 * w + j : Nat) : Int)) ∨ (v = 0 ∧ ¬ EV B ((9 * w + j : Nat) : Int))) := by
  have hW0 := hW.1
  have hE0 := hW.2.1
  unfold m_X1_goesTogether
  refine wp_gd (by omega) (wp_if (fun c1 => ?_) (fun c1 => ?_))
  · exact wp_some (Or.inl ⟨rfl, Or.inr ⟨by omega, by omega, by omega, Or.inl (by omega)⟩⟩)
  · refine wp_gd (by omega) (wp_if (fun c2 => absurd c2 (by omega)) (fun c2 => ?_))
    have q1 : (((9 * w + j : Nat) : Int) % 9 - 1).toNat = x2.toNat := by omega
    have q2 : (((9 * w + j : Nat) : Int) / 9).toNat = x1.toNat := by omega
    refine wp_gd (by omega) (wp_gd (by omega) (wp_gd (hB.1 11 _ (by decide) (by decide) (by decide)) (wp_gd (hB.1 7 _ (by decide) (by decide) (by decide)) (wp_if (fun c3 => ?_) (fun c3 => ?_)))))
    · exact wp_some (Or.inl ⟨rfl, Or.inr ⟨by omega, by omega, by omega, Or.inr ⟨by omega, by rw [q1, q2]; exact c3⟩⟩⟩)
    · refine wp_some (Or.inr ⟨rfl, ?_⟩)
      rintro (z | ⟨_, _, _, z⟩)
      · omega
      · rcases z with z | ⟨_, z⟩
        · omega
        · rw [q1, q2] at z
          exact c3 z
end
section
/-! the class's list of choices -/
abbrev oWk : Type := Int × (Nat → Int) × (Nat → Int) × (Nat → Int) × Nat × (Nat → Int) × Nat × Int × Int
set_option maxHeartbeats 4000000 in
theorem q_offerWords {B : Nat → Nat → Int} {t : Nat → Int} (hB : GB B) (hW : GW B) (ht : ∀ k, inI (t k)) {n a b : Nat} (hn : n ≤ 36) (hab : a < b) (hbn : b ≤ n) {leads rests : Nat → Int} (hLI : ∀ i, inI (leads i)) (hLb : ∀ j : Nat, j ≤ 8 → leads (9 * a + j) = 268435456 ∨ (-200000 ≤ leads (9 * a + j) ∧ leads (9 * a + j) ≤ 200000)) (hR : RBc n 0 rests) {E C now next : Nat → Int} {low high : Int} (nA xA : Nat) (hC : ∀ i, inI (C i)) (hok : spOk now next low high) {x1 x2 : Int} (e1 : x1 = a) (e2 : x2 = b) :
    wp (m_X2_offerWords x1 x2 (B 0) (B 1) (B 2) (B 3) (B 18 0) (B 4) (B 6) (B 7) (B 8) (B 18 1) (B 9) (B 11) (B 12) (B 13) leads 0 E C rests t now nA next xA low high) (fun u => (∃ len : Nat, u.1 = len ∧ len ≤ 12 ∧ OFS (VL B t a b (fun j => leads (9 * a + j)) (fun j => rests (9 * b + j)) 268435456 268435456) 540 (len, u.2.1, u.2.2.1)) ∧ (∀ i, inI (u.2.2.1 i)) ∧ spOk u.2.2.2.1 u.2.2.2.2.2.1 u.2.2.2.2.2.2.2.1 u.2.2.2.2.2.2.2.2) := by
  have hW0 := hW.1
  have hE0 := hW.2.1
  obtain ⟨V, eV⟩ : ∃ V : Nat → Int → Prop, V = VL B t a b (fun j => leads (9 * a + j)) (fun j => rests (9 * b + j)) 268435456 268435456 := ⟨_, rfl⟩
  have hVE : ∀ i v, V i v → EV B i := fun i v h => by rw [eV] at h; exact h.1
  rw [← eV]
  unfold m_X2_offerWords
  refine wp_bind (P := fun u : Nat × Int × oWk => (∃ len : Nat, u.2.2.1 = len ∧ len ≤ 12 ∧ OFS V 540 (len, u.2.2.2.1, u.2.2.2.2.1)) ∧ (∀ i, inI (u.2.2.2.2.1 i)) ∧ spOk u.2.2.2.2.2.1 u.2.2.2.2.2.2.2.1 u.2.2.2.2.2.2.2.2.2.1 u.2.2.2.2.2.2.2.2.2.2) (wp_loop (fun w y => y.1 = (w : Int) ∧ (∃ len : Nat, y.2.1 = len ∧ len ≤ 12 ∧ OFS V (9 * w) (len, y.2.2.1, y.2.2.2.1)) ∧ (∀ i, inI (y.2.2.2.1 i)) ∧ spOk y.2.2.2.2.1 y.2.2.2.2.2.2.1 y.2.2.2.2.2.2.2.2.1 y.2.2.2.2.2.2.2.2.2) (B 18 0).toNat (by omega) ⟨rfl, ⟨0, rfl, by omega, fun _ => (0, E, C), rfl, fun i h => absurd h (by omega), oEq.rfl', fun i _ => by show 0 ≤ 12; omega⟩, hC, hok⟩ ?_) ?_
  · intro w y hw hs
    obtain ⟨a1, ⟨len, a2, a3, a4⟩, a5, a6⟩ := hs
    unfold m_X2_offerWords_2
    refine wp_gd (by omega) (wp_gd (by omega) (wp_if (fun c1 => ?_) (fun c1 => ?_)))
    · refine wp_end (by decide) ⟨⟨len, a2, a3, ?_⟩, a5, a6⟩
      have h9 := OFS.skip (l := (len, y.2.2.1, y.2.2.2.1)) a3 (540 - 9 * w) (9 * w) a4 (fun i g1 g2 v hv => ?_)
      · rw [show 9 * w + (540 - 9 * w) = 540 by omega] at h9
        exact h9
      · rcases hVE i v hv with z | ⟨z1, z2, z3, _⟩
        · omega
        · omega
    · have hwW : (w : Int) < B 18 0 := by omega
      refine wp_bind (P := fun u : Nat × Int × oWk => (∃ len : Nat, u.2.2.1 = len ∧ len ≤ 12 ∧ OFS V (9 * (w + 1)) (len, u.2.2.2.1, u.2.2.2.2.1)) ∧ (∀ i, inI (u.2.2.2.2.1 i)) ∧ spOk u.2.2.2.2.2.1 u.2.2.2.2.2.2.2.1 u.2.2.2.2.2.2.2.2.2.1 u.2.2.2.2.2.2.2.2.2.2) (wp_loop (fun j d => d.1 = (j : Int) - 1 ∧ (∃ len : Nat, d.2.1 = len ∧ len ≤ 12 ∧ OFS V (9 * w + j) (len, d.2.2.1, d.2.2.2.1)) ∧ (∀ i, inI (d.2.2.2.1 i)) ∧ spOk d.2.2.2.2.1 d.2.2.2.2.2.2.1 d.2.2.2.2.2.2.2.2.1 d.2.2.2.2.2.2.2.2.2) (B 18 1 + 1).toNat (by omega) ⟨rfl, ⟨len, a2, a3, a4⟩, a5, a6⟩ ?_) ?_
      · intro j d hj hsd
        obtain ⟨d1, ⟨ln, d2, d3, d4⟩, d5, d6⟩ := hsd
        unfold m_X2_offerWords_16
        refine wp_gd (by omega) (wp_gd (by omega) (wp_if (fun c2 => ?_) (fun c2 => ?_)))
        · refine wp_end (by decide) ⟨⟨ln, d2, d3, ?_⟩, d5, d6⟩
          have h9 := OFS.skip (l := (ln, d.2.2.1, d.2.2.2.1)) d3 (9 - j) (9 * w + j) d4 (fun i g1 g2 v hv => ?_)
          · rw [show 9 * w + j + (9 - j) = 9 * (w + 1) by omega] at h9
            exact h9
          · rcases hVE i v hv with z | ⟨z1, z2, z3, z4⟩
            · omega
            · omega
        · refine wp_bind (q_goes hB hW hwW (j := j) (by omega) a1 d1) ?_
          intro r hr
          refine wp_gd (by omega) (wp_if (fun c3 => ?_) (fun c3 => ?_))
          · have hno : ¬ EV B ((9 * w + j : Nat) : Int) := by
              rcases hr with ⟨z, _⟩ | ⟨_, z⟩
              · omega
              · exact z
            exact wp_vl (wp_go ⟨by omega, by show d.1 + 1 = _; omega, ⟨ln, d2, d3, d4.put d3 (Or.inr ⟨fun v hv => hno (hVE _ v hv), oEq.rfl'⟩) d3⟩, d5, d6⟩)
          · have hev : EV B ((9 * w + j : Nat) : Int) := by
              rcases hr with ⟨_, z⟩ | ⟨z, _⟩
              · exact z
              · omega
            have ee : y.1 * 9 + d.1 + 1 = ((9 * w + j : Nat) : Int) := by omega
            refine wp_vl ?_
            rw [ee]
            refine wp_bind (q_costOf hB hW ht hev (a := a) (b := b) (by omega) (by omega) _ _ d6 rfl e1 e2) ?_
            rintro ⟨cst, n1, n1A, n2, n2A, lo, hi⟩ ⟨w1, w2⟩
            refine wp_bind (q_offer hB hW hn hab hbn hLI hLb hR d3 d5 hev w1 rfl e1 e2 d2 (by rw [← eV]; exact d4)) ?_
            rintro ⟨l2, E2, C2⟩ ⟨len', g1, g2, g3, g4⟩
            rw [← eV] at g3
            exact wp_vl (wp_go ⟨by omega, by show d.1 + 1 = _; omega, ⟨len', g1, g2, g3⟩, g4, w2⟩)
      · rintro ⟨t16, y4, l2, E2, C2, n1, n1A, n2, n2A, lo, hi⟩ ⟨u1, u2, u3⟩
        exact wp_vl (wp_go ⟨by omega, by show y.1 + 1 = _; omega, u1, u2, u3⟩)
  · rintro ⟨t2, y3, l2, E2, C2, n1, n1A, n2, n2A, lo, hi⟩ hu
    exact wp_some hu
/-- what the class knows of the choices of a part -/
def OLC (B : Nat → Nat → Int) (t : Nat → Int) (a b : Nat) (leads rests : Nat → Int) (olen : Int) (E C : Nat → Int) : Prop := ∃ len : Nat, olen = len ∧ len ≤ 12 ∧ OFS (VL B t a b (fun j => leads (9 * a + j)) (fun j => rests (9 * b + j)) 268435456 268435456) 541 (len, E, C)
set_option maxHeartbeats 2000000 in
theorem q_list {B : Nat → Nat → Int} {t : Nat → Int} (hB : GB B) (hW : GW B) (hS : GS B) (ht : ∀ k, inI (t k)) {n : Nat} (hn : n ≤ 36) (hX : FXC B n) {fv vals tails leads sc rests bg en et co E C now next : Nat → Int} {low high rlen rtot known listed olen x1 sl : Int} (nA xA : Nat) (hsc : SCo B sc) (hD : RDC B t n fv rests rtot rlen bg en et co vals) (hTI : ∀ i, inI (tails i)) (hLI : ∀ i, inI (leads i)) (hC : ∀ i, inI (C i)) (hok : spOk now next low high) (es : sl = n) (hx : inI x1) (hkn : known = 0 ∨ (known = 1 ∧ LDC B t n tails leads)) (hli : inI listed) (hls : listed = -1 ∨ (known = 1 ∧ ∃ i a b : Nat, listed = i ∧ bg i = a ∧ en i = b ∧ OLC B t a b leads rests olen E C)) :
    wp (m_X2_list x1 (B 0) (B 1) (B 2) (B 3) (B 18 0) (B 4) (B 6) (B 7) (B 8) (B 18 1) (B 9) (B 11) (B 12) (B 13) sc tails leads known listed olen E C fv rests rlen bg en sl t (B 17) (B 19) vals now nA next xA low high) (fun u => ((u.1 = 0 ∧ ¬ (0 ≤ x1 ∧ x1 < rlen) ∧ u.2 = (tails, leads, known, listed, olen, E, C, now, nA, next, xA, low, high)) ∨ (u.1 = 1 ∧ (0 ≤ x1 ∧ x1 < rlen) ∧ u.2.2.2.1 = 1 ∧ u.2.2.2.2.1 = x1 ∧ LDC B t n u.2.1 u.2.2.1 ∧ ∃ a b : Nat, bg x1.toNat = a ∧ en x1.toNat = b ∧ a < b ∧ b ≤ n ∧ LT B n a b ∧ OLC B t a b u.2.2.1 rests u.2.2.2.2.2.1 u.2.2.2.2.2.2.1 u.2.2.2.2.2.2.2.1)) ∧ (∀ i, inI (u.2.1 i)) ∧ (∀ i, inI (u.2.2.1 i)) ∧ (∀ i, inI (u.2.2.2.2.2.2.2.1 i)) ∧ spOk u.2.2.2.2.2.2.2.2.1 u.2.2.2.2.2.2.2.2.2.2.1 u.2.2.2.2.2.2.2.2.2.2.2.2.1 u.2.2.2.2.2.2.2.2.2.2.2.2.2) := by
  obtain ⟨P, p1, p2, p3, p4⟩ := hD
  unfold m_X2_list
  refine wp_gd hx (wp_if (fun c1 => ?_) (fun c1 => ?_))
  · exact wp_some ⟨Or.inl ⟨rfl, by omega, rfl⟩, hTI, hLI, hC, hok⟩
  · refine wp_gd (by omega) (wp_if (fun c2 => ?_) (fun c2 => ?_))
    · obtain ⟨i, ei⟩ : ∃ i : Nat, x1 = i := ⟨x1.toNat, by omega⟩
      have h0 : 0 < n := by
        rcases Nat.eq_zero_or_pos n with z | z
        · have := (p3 z).1
          omega
        · exact z
      obtain ⟨f1, f2, f3, f4, f5, f6⟩ := p4 h0
      obtain ⟨a, b, e, K, wn, g1, g2, g3, g4, g5, g6⟩ := f5.2.1 i (by omega)
      have fin := FMG_in g6
      have ein : x1.toNat = i := by omega
      refine wp_gd hli (wp_if (fun c3 => ?_) (fun c3 => ?_))
      · rcases hls with z | ⟨z1, i', a', b', z2, z3, z4, z5⟩
        · omega
        · have hii : i' = i := by omega
          subst hii
          have haa : a' = a := by omega
          have hbb : b' = b := by omega
          subst haa
          subst hbb
          have hl : LDC B t n tails leads := by
            rcases hkn with z | ⟨_, z⟩
            · omega
            · exact z
          exact wp_some ⟨Or.inr ⟨rfl, ⟨by omega, c2⟩, z1, c3.symm, hl, a', b', by rw [ein]; exact z3, by rw [ein]; exact z4, fin.1, fin.2.1, fin.2.2.2.2.2, z5⟩, hTI, hLI, hC, hok⟩
      · refine wp_bind (q_allLeads hB hW hS hn hX f1 f2 hsc hTI hLI es hkn) ?_
        rintro ⟨tl, ld, kn2⟩ ⟨l1, l2⟩
        have l1 : LDC B t n tl ld := l1
        have l2 : kn2 = 1 := l2
        have hLb : ∀ j : Nat, j ≤ 8 → ld (9 * a + j) = 268435456 ∨ (-200000 ≤ ld (9 * a + j) ∧ ld (9 * a + j) ≤ 200000) := by
          intro j hj
          have := (l1.2.2.2.1 a j (by omega) hj).2
          omega
        rw [ein, g1, g2]
        refine wp_gd (by omega) (wp_gd (by omega) (wp_bind (q_offerWords hB hW ht hn fin.1 fin.2.1 l1.2.1 hLb f3.2.1 nA xA hC hok rfl rfl) ?_))
        rintro ⟨o1, E1, C1, n1, n1A, n2, n2A, lo, hi⟩ ⟨⟨len, q1, q2, q3⟩, q4, q5⟩
        have q1 : o1 = len := q1
        refine wp_gd (by omega) (wp_gd (by omega) ?_)
        unfold m_X2_offerGuess
        have hev : EV B ((540 : Nat) : Int) := Or.inl rfl
        refine wp_bind (P := fun u : oWk => (∃ len : Nat, u.1 = len ∧ len ≤ 12 ∧ OFS (VL B t a b (fun j => ld (9 * a + j)) (fun j => rests (9 * b + j)) 268435456 268435456) 541 (len, u.2.1, u.2.2.1)) ∧ (∀ i, inI (u.2.2.1 i)) ∧ spOk u.2.2.2.1 u.2.2.2.2.2.1 u.2.2.2.2.2.2.2.1 u.2.2.2.2.2.2.2.2) (wp_bind (q_costOf hB hW ht hev (a := a) (b := b) (by omega) (by omega) n1A n2A q5 rfl rfl rfl) ?_) ?_
        · rintro ⟨cst, m1, m1A, m2, m2A, lo2, hi2⟩ ⟨w1, w2⟩
          refine wp_bind (q_offer hB hW hn fin.1 fin.2.1 l1.2.1 hLb f3.2.1 q2 q4 hev w1 rfl rfl rfl q1 q3) ?_
          rintro ⟨l3, E2, C2⟩ ⟨len', r1, r2, r3, r4⟩
          exact wp_some ⟨⟨len', r1, r2, r3⟩, r4, w2⟩
        · rintro ⟨o2, E2, C2, m1, m1A, m2, m2A, lo2, hi2⟩ ⟨u1, u2, u3⟩
          exact wp_some ⟨Or.inr ⟨rfl, ⟨by omega, c2⟩, l2, rfl, l1, a, b, rfl, rfl, fin.1, fin.2.1, fin.2.2.2.2.2, u1⟩, l1.1.2, l1.2.1, u2, u3⟩
    · exact wp_some ⟨Or.inl ⟨rfl, by omega, rfl⟩, hTI, hLI, hC, hok⟩
end
section
/-! the reference's choices -/
abbrev st4 : Type := (Nat → Int) × (Nat → Int) × (Nat → Int) × Int
def JC (V : Nat → Int → Prop) (k : Nat) (s : st4) : Prop := (∃ len : Nat, s.2.2.2 = len ∧ len ≤ 12 ∧ OFS V k (len, pent s.1 s.2.1, s.2.2.1) ∧ ∀ i, i < len → (0 ≤ s.1 i ∧ s.1 i ≤ 60) ∧ (-1 ≤ s.2.1 i ∧ s.2.1 i < 8) ∧ (s.1 i = 60 → s.2.1 i = -1)) ∧ ∀ i, inI (s.2.2.1 i)
theorem JC.skip {V : Nat → Int → Prop} {k k' : Nat} {s : st4} (h : JC V k s) (hk : k ≤ k') (hno : ∀ i, k ≤ i → i < k' → ∀ v, ¬ V i v) : JC V k' s := by
  obtain ⟨⟨len, h1, h2, h3, h4⟩, h5⟩ := h
  refine ⟨⟨len, h1, h2, ?_, h4⟩, h5⟩
  have h9 := OFS.skip (l := (len, pent s.1 s.2.1, s.2.2.1)) h2 (k' - k) k h3 (fun i g1 g2 => hno i g1 (by omega))
  rw [show k + (k' - k) = k' by omega] at h9
  exact h9
set_option maxHeartbeats 4000000 in
theorem q_choose0 {B : Nat → Nat → Int} {t : Nat → Int} (hB : GB B) (hW : GW B) (hS : GS B) {n a b : Nat} (hn : n ≤ 36) (hab : a < b) (hbn : b ≤ n) (hlt : LT B n a b) {tb rest ah pF pT cW cE cC : Nat → Int} (hT : TBL B t n (540 * n) tb) (hR : BR B t n 0 rest) (hA : AHD B t n ah) (hC : ∀ i, inI (cC i)) {La : Nat → Int} (hLa : ∀ j : Nat, j ≤ 8 → Lst (fwd B ah a j) 134217728 (La j)) {gu ba nn x1 ch : Int} (eg : gu = B 13 1) (eb : ba = B 13 2) (en : nn = n) (hx : 0 ≤ x1 ∧ x1 < 36) (ea : pF x1.toNat = a) (ebb : pT x1.toNat = b) :
    wp (m_X9_choose0 x1 (B 6) (B 7) (B 8) (B 11) (B 12) (B 18 0) (B 18 1) gu ba (B 14) (B 15) nn (B 17) tb rest ah pF pT cW cE cC ch) (fun u => JC (VL B t a b La (fun j => rest (10 * b + j)) 134217728 134217728) 541 u) := by
  have hW0 := hW.1
  have hE0 := hW.2.1
  obtain ⟨V, eV⟩ : ∃ V : Nat → Int → Prop, V = VL B t a b La (fun j => rest (10 * b + j)) 134217728 134217728 := ⟨_, rfl⟩
  have hVE : ∀ i v, V i v → EV B i := fun i v h => by rw [eV] at h; exact h.1
  rw [← eV]
  -- one entry
  have hstep : ∀ (w e t1 : Int) (s : st4), ((0 ≤ w ∧ w < B 18 0) ∨ w = 60) → (-1 ≤ e ∧ e < 8) → (w ≠ 60 → e < B 18 1) → (w = 60 → e = -1) → inI t1 → e < t1 → JC V (9 * w + e + 1).toNat s → wp (m_X9_choose0_68 (a : Int) (b : Int) w e e t1 (B 6) (B 7) (B 8) (B 11) (B 12) (B 18 0) (B 18 1) gu ba (B 14) (B 15) nn (B 17) tb rest ah pF pT s.1 s.2.1 s.2.2.1 s.2.2.2) (fun u => u.1 = 0 ∧ u.2.1 = e + 1 ∧ JC V ((9 * w + e + 1).toNat + 1) u.2.2) := by
    intro w e t1 s hw he he2 hwe ht1 het hJ
    obtain ⟨E, eE⟩ : ∃ E : Nat, (9 * w + e + 1) = E := ⟨(9 * w + e + 1).toNat, by omega⟩
    have eE2 : (9 * w + e + 1).toNat = E := by omega
    rw [eE2] at hJ ⊢
    have hsame : (∀ v, ¬ V E v) → JC V (E + 1) s := fun hno => hJ.skip (by omega) (fun i g1 g2 v => by rw [show i = E by omega]; exact hno v)
    have hno : ¬ EV B E → ∀ v, ¬ V E v := fun h v hv => h (hVE _ _ hv)
    unfold m_X9_choose0_68
    refine wp_gd (by omega) (wp_gd ht1 (wp_if (fun c0 => absurd c0 (by omega)) (fun _ => ?_)))
    refine wp_bind (q_rcost hB hW hn hT hab hbn hw ⟨he.1, by by_cases h : w = 60 <;> omega⟩ hwe rfl rfl eg eb) ?_
    intro c hc
    rw [eE] at hc
    have hk := q_rkind (K := B 6) (w := w) (e := e) (by omega) he hwe
    rw [eE] at hk
    have hkb : 0 ≤ kd (B 6) E ∧ kd (B 6) E ≤ 8 := by
      unfold kd
      by_cases h : (E : Int) = 540
      · rw [if_pos h]
        omega
      · rw [if_neg h]
        have hw2 : w ≠ 60 := by
          intro z
          have := hwe z
          omega
        have := (hW.2.2.1 ((E : Int) / 9).toNat (by omega)).2.2.1
        omega
    obtain ⟨K, eK⟩ : ∃ K : Nat, kd (B 6) E = K := ⟨(kd (B 6) E).toNat, by omega⟩
    have eKn : (kd (B 6) E).toNat = K := by omega
    rw [eK] at hk
    refine wp_eq hk (wp_bind (q_leastAhead hB hS hn (a := a) (by omega) hA.1 rfl (k := (K : Int)) (by omega)) ?_)
    rintro l ⟨l1, l2⟩
    have hlL : l = La K := by
      rcases l1.two (hLa K (by omega)) with ⟨z1, z2⟩ | ⟨z, _⟩
      · omega
      · exact z
    have et : (10 * (b : Int) + (K : Int)).toNat = 10 * b + K := by omega
    refine wp_eq hk (wp_eq (show m_X9_at (b : Int) (K : Int) = some (10 * (b : Int) + (K : Int)) from rfl) ?_)
    rw [et]
    have hrI := hR.2.1.2 (10 * b + K)
    refine wp_gd (by omega) (wp_vl ?_)
    have hlI : inI l := by
      by_cases h : l < 134217728
      · have := l2 h
        omega
      · rcases l1 with ⟨z, _⟩ | ⟨z, _⟩ <;> omega
    by_cases hev : EV B E
    · have hcl := hc.1 hev
      have hcI : inI c := by
        rcases hcl with ⟨h1, _⟩ | ⟨h1, h2, _⟩
        · omega
        · have := CL_bd hB hW hev h2
          omega
      refine wp_gd hcI (wp_if (fun c1 => ?_) (fun c1 => ?_))
      · refine wp_vl (wp_some ⟨rfl, rfl, hsame ?_⟩)
        intro v hv
        rw [eV] at hv
        obtain ⟨_, c', h1, _⟩ := hv
        have := (hcl.le h1.1).2
        omega
      · refine wp_gd hlI (wp_if (fun c2 => ?_) (fun c2 => ?_))
        · refine wp_vl (wp_some ⟨rfl, rfl, hsame ?_⟩)
          intro v hv
          rw [eV] at hv
          obtain ⟨_, c', _, h2, _⟩ := hv
          rw [eKn] at h2
          omega
        · refine wp_gd hrI (wp_if (fun c3 => ?_) (fun c3 => ?_))
          · refine wp_vl (wp_some ⟨rfl, rfl, hsame ?_⟩)
            intro v hv
            rw [eV] at hv
            obtain ⟨_, c', _, _, h3, _⟩ := hv
            have h3 : rest (10 * b + (kd (B 6) E).toNat) < 134217728 := h3
            rw [eKn] at h3
            omega
          · refine wp_bind (q_isLet hB hn hab hbn rfl rfl en) ?_
            intro r hr
            have hr1 : r = 1 := by
              rcases hr with ⟨z, _⟩ | ⟨_, z⟩
              · exact z
              · exact absurd hlt z
            refine wp_gd (by omega) (wp_if (fun z => absurd z (by omega)) (fun _ => ?_))
            have hmem := hcl.mem (by omega)
            have hcb := CL_bd hB hW hev hmem
            have hlb := l2 (by omega)
            have hrb := hR.2.1.1 b K (by omega) hbn (by omega) (by omega)
            obtain ⟨⟨len, j1, j2, j3, j4⟩, j5⟩ := hJ
            refine wp_bind (q_put j2 j5 (w := w) (e := e) (v := c + l + rest (10 * b + K)) (by omega) j1) ?_
            rintro ⟨W2, E2, C2, ch2⟩ ⟨len', g1, g2, g3, g4, g5⟩
            rw [eE] at g3
            refine wp_vl (wp_some ⟨rfl, rfl, ⟨len', g1, g2, j3.put g2 (Or.inl ⟨c + l + rest (10 * b + K), ?_, g3⟩) j2, fun i hi => ?_⟩, g4⟩)
            · rw [eV]
              refine ⟨hev, c, ⟨hmem, fun x hx => (hcl.le hx).1⟩, ?_, ?_, ?_⟩
              · rw [eKn]
                omega
              · show rest (10 * b + (kd (B 6) E).toNat) < 134217728
                rw [eKn]
                omega
              · show c + l + rest (10 * b + K) = La (kd (B 6) E).toNat + c + rest (10 * b + (kd (B 6) E).toNat)
                rw [eKn]
                omega
            · show (0 ≤ W2 i ∧ W2 i ≤ 60) ∧ (-1 ≤ E2 i ∧ E2 i < 8) ∧ (W2 i = 60 → E2 i = -1)
              rcases g5 i hi with ⟨z1, z2⟩ | ⟨jj, z1, z2, z3⟩
              · have z1 : W2 i = w := z1
                have z2 : E2 i = e := z2
                rw [z1, z2]
                omega
              · have z2 : W2 i = s.1 jj := z2
                have z3 : E2 i = s.2.1 jj := z3
                rw [z2, z3]
                exact j4 jj z1
    · have hcN := hc.2 hev
      refine wp_gd (by omega) (wp_if (fun c1 => ?_) (fun c1 => absurd (by omega) c1))
      exact wp_vl (wp_some ⟨rfl, rfl, hsame (hno hev)⟩)
  -- each entry of a word
  have h48 : ∀ (w : Nat) (x3 : Int) (s : st4), (((w : Int) < B 18 0) ∨ w = 60) → x3 = w → JC V (9 * w) s → wp (m_X9_choose0_48 (a : Int) (b : Int) x3 (B 6) (B 7) (B 8) (B 11) (B 12) (B 18 0) (B 18 1) gu ba (B 14) (B 15) nn (B 17) tb rest ah pF pT s.1 s.2.1 s.2.2.1 s.2.2.2) (fun u => u.1 = 0 ∧ u.2.1 = ((w + 1 : Nat) : Int) ∧ JC V (if w + 1 = 61 then 541 else 9 * (w + 1)) u.2.2) := by
    intro w x3 s hw e3 hs
    obtain ⟨Ne, eNe⟩ : ∃ Ne : Nat, (w = 60 ∧ Ne = 1) ∨ (w ≠ 60 ∧ (Ne : Int) = B 18 1 + 1) := by
      by_cases h : w = 60
      · exact ⟨1, Or.inl ⟨h, rfl⟩⟩
      · exact ⟨(B 18 1 + 1).toNat, Or.inr ⟨h, by omega⟩⟩
    unfold m_X9_choose0_48
    refine wp_bind (P := fun u : Nat × Int × st4 => JC V (if w + 1 = 61 then 541 else 9 * (w + 1)) u.2.2) (wp_loop (fun j y => y.1 = -1 + (j : Int) ∧ JC V (9 * w + j) y.2) Ne (by omega) ⟨rfl, hs⟩ ?_) ?_
    · intro j y hj hst
      obtain ⟨a1, a2⟩ := hst
      have h68 : ∀ t1 : Int, ((w = 60 ∧ t1 = 0) ∨ (w ≠ 60 ∧ t1 = B 18 1)) → wp (m_X9_choose0_68 (a : Int) (b : Int) x3 y.1 y.1 t1 (B 6) (B 7) (B 8) (B 11) (B 12) (B 18 0) (B 18 1) gu ba (B 14) (B 15) nn (B 17) tb rest ah pF pT y.2.1 y.2.2.1 y.2.2.2.1 y.2.2.2.2) (fun u : Nat × Int × st4 => (u.1 = 0 → j < Ne ∧ u.2.1 = -1 + ((j + 1 : Nat) : Int) ∧ JC V (9 * w + (j + 1)) u.2.2) ∧ (u.1 ≠ 0 → JC V (if w + 1 = 61 then 541 else 9 * (w + 1)) u.2.2)) := by
        intro t1 ht1
        by_cases hdone : j = Ne
        · unfold m_X9_choose0_68
          refine wp_gd (by omega) (wp_gd (by omega) (wp_if (fun c1 => ?_) (fun c1 => absurd (by omega) c1)))
          refine wp_some ⟨fun z => absurd z Nat.one_ne_zero, fun _ => ?_⟩
          show JC V _ y.2
          by_cases h60 : w = 60
          · rw [if_pos (by omega)]
            have : 9 * w + j = 541 := by omega
            rw [this] at a2
            exact a2
          · rw [if_neg (by omega)]
            refine a2.skip (by omega) (fun z z1 z2 v hz => ?_)
            rcases hVE z v hz with hz | ⟨_, _, _, hz⟩
            · omega
            · omega
        · have ej : (9 * x3 + y.1 + 1).toNat = 9 * w + j := by omega
          refine wp_mono (hstep x3 y.1 t1 y.2 (by omega) (by omega) (by omega) (by omega) (by omega) (by omega) (by rw [ej]; exact a2)) ?_
          rintro u ⟨u1, u2, u3⟩
          rw [ej] at u3
          exact ⟨fun _ => ⟨by omega, by omega, u3⟩, fun z => absurd u1 z⟩
      unfold m_X9_choose0_51
      refine wp_gd (by omega) (wp_if (fun c1 => ?_) (fun c1 => ?_))
      · exact h68 0 (Or.inl ⟨by omega, rfl⟩)
      · exact h68 (B 18 1) (Or.inr ⟨by omega, rfl⟩)
    · rintro ⟨t51, y5, r1, r2, r3, r4⟩ hu
      exact wp_vl (wp_some ⟨rfl, by show x3 + 1 = _; omega, hu⟩)
  have hJ0 : JC V 0 (cW, cE, cC, 0) := ⟨⟨0, rfl, by omega, ⟨fun _ => (0, pent cW cE, cC), rfl, fun i h => absurd h (by omega), oEq.rfl', fun i _ => by show 0 ≤ 12; omega⟩, fun i h => absurd h (by omega)⟩, hC⟩
  unfold m_X9_choose0
  rw [ea, ebb]
  refine wp_gd hx (wp_vl (wp_gd hx (wp_vl (wp_bind (P := fun u : Nat × Int × st4 => JC V 541 u.2.2) (wp_loop (fun k y => y.1 = (k : Int) ∧ JC V (if k = 61 then 541 else 9 * k) y.2) 61 (by omega) ⟨rfl, hJ0⟩ ?_) ?_))))
  · intro k y hk hs
    obtain ⟨a1, a2⟩ := hs
    unfold m_X9_choose0_22
    refine wp_gd (by omega) (wp_if (fun c1 => ?_) (fun c1 => ?_))
    · refine wp_end (by decide) ?_
      rw [if_pos (by omega)] at a2
      exact a2
    · rw [if_neg (by omega)] at a2
      refine wp_gd (by omega) (wp_if (fun c2 => ?_) (fun c2 => ?_))
      · refine wp_mono (h48 k y.1 y.2 (Or.inl (by omega)) a1 a2) ?_
        rintro u ⟨u1, u2, u3⟩
        exact ⟨fun _ => ⟨by omega, u2, u3⟩, fun z => absurd u1 z⟩
      · refine wp_if (fun c3 => ?_) (fun c3 => ?_)
        · refine wp_mono (h48 k y.1 y.2 (Or.inr (by omega)) a1 a2) ?_
          rintro u ⟨u1, u2, u3⟩
          exact ⟨fun _ => ⟨by omega, u2, u3⟩, fun z => absurd u1 z⟩
        · refine wp_vl (wp_go ⟨by omega, by show y.1 + 1 = _; omega, ?_⟩)
          rw [if_neg (by omega)]
          refine a2.skip (by omega) (fun z z1 z2 v hz => ?_)
          rcases hVE z v hz with hz | ⟨_, _, hz, _⟩
          · omega
          · omega
  · rintro ⟨t22, y4, r1, r2, r3, r4⟩ hu
    exact wp_some hu
end
section
/-! the reference's fixed parts: some are let go -/
abbrev r4 : Type := (Nat → Int) × (Nat → Int) × (Nat → Int) × (Nat → Int)
abbrev r4eq (r o : r4) (i j : Nat) : Prop := r.1 i = o.1 j ∧ r.2.1 i = o.2.1 j ∧ r.2.2.1 i = o.2.2.1 j ∧ r.2.2.2 i = o.2.2.2 j
/-- of the first k those that are kept stand at the row's begin, in their order -/
def FP (keep : Nat → Prop) (o : r4) (k to : Nat) (r : r4) : Prop := to ≤ k ∧ (∀ i, k ≤ i → r4eq r o i i) ∧ ∃ ix : Nat → Nat, (∀ f, f < to → ix f < k ∧ keep (ix f) ∧ r4eq r o f (ix f)) ∧ (∀ f, f < k → keep f → ∃ f', f' < to ∧ ix f' = f) ∧ ∀ f g, f < g → g < to → ix f < ix g
theorem FP.skip {keep : Nat → Prop} {o r : r4} {k to : Nat} (h : FP keep o k to r) (hk : ¬ keep k) : FP keep o (k + 1) to r := by
  obtain ⟨h1, h2, ix, h3, h4, h5⟩ := h
  refine ⟨by omega, fun i hi => h2 i (by omega), ix, fun f hf => ⟨by have := (h3 f hf).1; omega, (h3 f hf).2⟩, fun f hf hkf => ?_, h5⟩
  by_cases hfk : f = k
  · subst hfk
    exact absurd hkf hk
  · exact h4 f (by omega) hkf
theorem FP.keep {keep : Nat → Prop} {o r : r4} {k to : Nat} (h : FP keep o k to r) (hk : keep k) : FP keep o (k + 1) (to + 1) (uz r.1 to (r.1 k), uz r.2.1 to (r.2.1 k), uz r.2.2.1 to (r.2.2.1 k), uz r.2.2.2 to (r.2.2.2 k)) := by
  obtain ⟨h1, h2, ix, h3, h4, h5⟩ := h
  refine ⟨by omega, fun i hi => ?_, fun f => if f = to then k else ix f, fun f hf => ?_, fun f hf hkf => ?_, fun f g hfg hg => ?_⟩
  · show uz r.1 to (r.1 k) i = o.1 i ∧ uz r.2.1 to (r.2.1 k) i = o.2.1 i ∧ uz r.2.2.1 to (r.2.2.1 k) i = o.2.2.1 i ∧ uz r.2.2.2 to (r.2.2.2 k) i = o.2.2.2 i
    rw [uz_ne _ _ (by omega), uz_ne _ _ (by omega), uz_ne _ _ (by omega), uz_ne _ _ (by omega)]
    exact h2 i (by omega)
  · show (if f = to then k else ix f) < k + 1 ∧ keep (if f = to then k else ix f) ∧ (uz r.1 to (r.1 k) f = o.1 (if f = to then k else ix f) ∧ uz r.2.1 to (r.2.1 k) f = o.2.1 (if f = to then k else ix f) ∧ uz r.2.2.1 to (r.2.2.1 k) f = o.2.2.1 (if f = to then k else ix f) ∧ uz r.2.2.2 to (r.2.2.2 k) f = o.2.2.2 (if f = to then k else ix f))
    by_cases hft : f = to
    · rw [if_pos hft, hft, uz_at, uz_at, uz_at, uz_at]
      exact ⟨by omega, hk, h2 k (by omega)⟩
    · rw [if_neg hft, uz_ne _ _ hft, uz_ne _ _ hft, uz_ne _ _ hft, uz_ne _ _ hft]
      obtain ⟨g1, g2, g3⟩ := h3 f (by omega)
      exact ⟨by omega, g2, g3⟩
  · by_cases hfk : f = k
    · exact ⟨to, by omega, by show (if to = to then k else ix to) = f; rw [if_pos rfl, hfk]⟩
    · obtain ⟨f', g1, g2⟩ := h4 f (by omega) hkf
      exact ⟨f', by omega, by show (if f' = to then k else ix f') = f; rw [if_neg (by omega)]; exact g2⟩
  · show (if f = to then k else ix f) < (if g = to then k else ix g)
    by_cases hgt : g = to
    · rw [if_neg (by omega), if_pos hgt]
      exact (h3 f (by omega)).1
    · rw [if_neg (by omega), if_neg hgt]
      exact h5 f g hfg (by omega)
theorem FP.start {keep : Nat → Prop} {o : r4} : FP keep o 0 0 o := ⟨Nat.le_refl _, fun i _ => ⟨rfl, rfl, rfl, rfl⟩, fun f => f, fun f h => absurd h (by omega), fun f h => absurd h (by omega), fun f g _ h => absurd h (by omega)⟩
theorem q_keepFixed {x1 x2 : Int} {k to : Nat} (e1 : x1 = k) (e2 : x2 = to) (hk : k < 36) (ht : to < 36) (r : r4) : m_X9_keepFixed x1 x2 r.1 r.2.1 r.2.2.1 r.2.2.2 = some (uz r.1 to (r.1 k), uz r.2.1 to (r.2.1 k), uz r.2.2.1 to (r.2.2.1 k), uz r.2.2.2 to (r.2.2.2 k)) := by
  refine wp_out ?_
  unfold m_X9_keepFixed
  rw [show x1.toNat = k by omega, show x2.toNat = to by omega]
  exact wp_gd (by omega) (wp_gd (by omega) (wp_vl (wp_gd (by omega) (wp_gd (by omega) (wp_vl (wp_gd (by omega) (wp_gd (by omega) (wp_vl (wp_gd (by omega) (wp_gd (by omega) (wp_vl (wp_some rfl))))))))))))
theorem r4_inI {r : r4} {k to : Nat} (h : ∀ i, inI (r.1 i) ∧ inI (r.2.1 i)) : ∀ i, inI (uz r.1 to (r.1 k) i) ∧ inI (uz r.2.1 to (r.2.1 k) i) := fun i => ⟨uz_inI (fun j => (h j).1) (h k).1 i, uz_inI (fun j => (h j).2) (h k).2 i⟩
set_option maxHeartbeats 1000000 in
theorem q_unfix {fm : Nat} (hfm : fm ≤ 36) {o : r4} (hI : ∀ i, inI (o.1 i) ∧ inI (o.2.1 i)) {x1 x2 mm : Int} (h1 : inI x1) (h2 : inI x2) (em : mm = fm) : wp (m_X9_unfix x1 x2 mm o.1 o.2.1 o.2.2.1 o.2.2.2) (fun u => ∃ to : Nat, u.1 = to ∧ FP (fun f => ¬ (o.1 f < x2 ∧ x1 < o.2.1 f)) o fm to u.2) := by
  unfold m_X9_unfix
  refine wp_bind (P := fun u : Nat × Int × Int × r4 => ∃ to : Nat, u.2.1 = to ∧ FP (fun f => ¬ (o.1 f < x2 ∧ x1 < o.2.1 f)) o fm to u.2.2.2) (wp_loop (fun k y => y.2.1 = (k : Int) ∧ (∃ to : Nat, y.1 = to ∧ FP (fun f => ¬ (o.1 f < x2 ∧ x1 < o.2.1 f)) o k to y.2.2) ∧ ∀ i, inI (y.2.2.1 i) ∧ inI (y.2.2.2.1 i)) fm (by omega) ⟨rfl, ⟨0, rfl, FP.start⟩, hI⟩ ?_) ?_
  · intro k y hk hs
    obtain ⟨a1, ⟨to, a2, a3⟩, a4⟩ := hs
    have hto := a3.1
    unfold m_X9_unfix_5
    refine wp_gd (by omega) (wp_gd (by omega) (wp_if (fun c1 => ?_) (fun c1 => ?_)))
    · refine wp_end (by decide) ⟨to, a2, ?_⟩
      rw [show fm = k by omega]
      exact a3
    · have ek : y.2.1.toNat = k := by omega
      obtain ⟨q1, q2, _⟩ := a3.2.1 k (Nat.le_refl k)
      rw [ek]
      have hkeep : (fun f => ¬ (o.1 f < x2 ∧ x1 < o.2.1 f)) k → wp (m_X9_unfix_39 x1 x2 y.1 y.2.1 mm y.2.2.1 y.2.2.2.1 y.2.2.2.2.1 y.2.2.2.2.2) (fun u : Nat × Int × Int × r4 => (u.1 = 0 → k < fm ∧ u.2.2.1 = ((k + 1 : Nat) : Int) ∧ (∃ to : Nat, u.2.1 = to ∧ FP (fun f => ¬ (o.1 f < x2 ∧ x1 < o.2.1 f)) o (k + 1) to u.2.2.2) ∧ ∀ i, inI (u.2.2.2.1 i) ∧ inI (u.2.2.2.2.1 i)) ∧ (u.1 ≠ 0 → ∃ to : Nat, u.2.1 = to ∧ FP (fun f => ¬ (o.1 f < x2 ∧ x1 < o.2.1 f)) o fm to u.2.2.2)) := by
        intro hkp
        unfold m_X9_unfix_39
        refine wp_eq (q_keepFixed a1 a2 (by omega) (by omega) y.2.2) (wp_vl (wp_vl (wp_go ⟨by omega, by show y.2.1 + 1 = _; omega, ⟨to + 1, by show y.1 + 1 = _; omega, a3.keep hkp⟩, r4_inI a4⟩)))
      refine wp_gd (by omega) (wp_gd (a4 k).1 (wp_gd h2 (wp_if (fun c2 => ?_) (fun c2 => ?_))))
      · exact hkeep (fun z => by have := z.1; omega)
      · refine wp_gd (by omega) (wp_gd (a4 k).2 (wp_gd h1 (wp_if (fun c3 => ?_) (fun c3 => ?_))))
        · exact hkeep (fun z => by have := z.2; omega)
        · exact wp_vl (wp_go ⟨by omega, by show y.2.1 + 1 = _; omega, ⟨to, a2, a3.skip (fun z => z ⟨by omega, by omega⟩)⟩, a4⟩)
  · rintro ⟨t5, y3, y4, r1, r2, r3, r4'⟩ hu
    exact wp_some hu
end
section
/-! fixed parts let go at a break; the class's fix and moveBreak -/
set_option maxHeartbeats 1000000 in
theorem q_unfixEnds {fm : Nat} (hfm : fm ≤ 36) {o : r4} (hI : ∀ i, inI (o.1 i) ∧ inI (o.2.1 i)) {x1 mm : Int} (h1 : inI x1) (em : mm = fm) : wp (m_X9_unfixEnds x1 mm o.1 o.2.1 o.2.2.1 o.2.2.2) (fun u => ∃ to : Nat, u.1 = to ∧ FP (fun f => ¬ (o.1 f = x1 ∨ o.2.1 f = x1)) o fm to u.2 ∧ ∀ i, inI (u.2.1 i) ∧ inI (u.2.2.1 i)) := by
  unfold m_X9_unfixEnds
  refine wp_bind (P := fun u : Nat × Int × Int × r4 => ∃ to : Nat, u.2.1 = to ∧ FP (fun f => ¬ (o.1 f = x1 ∨ o.2.1 f = x1)) o fm to u.2.2.2 ∧ ∀ i, inI (u.2.2.2.1 i) ∧ inI (u.2.2.2.2.1 i)) (wp_loop (fun k y => y.2.1 = (k : Int) ∧ (∃ to : Nat, y.1 = to ∧ FP (fun f => ¬ (o.1 f = x1 ∨ o.2.1 f = x1)) o k to y.2.2) ∧ ∀ i, inI (y.2.2.1 i) ∧ inI (y.2.2.2.1 i)) fm (by omega) ⟨rfl, ⟨0, rfl, FP.start⟩, hI⟩ ?_) ?_
  · intro k y hk hs
    obtain ⟨a1, ⟨to, a2, a3⟩, a4⟩ := hs
    have hto := a3.1
    unfold m_X9_unfixEnds_4
    refine wp_gd (by omega) (wp_gd (by omega) (wp_if (fun c1 => ?_) (fun c1 => ?_)))
    · refine wp_end (by decide) ⟨to, a2, ?_, a4⟩
      rw [show fm = k by omega]
      exact a3
    · have ek : y.2.1.toNat = k := by omega
      obtain ⟨q1, q2, _⟩ := a3.2.1 k (Nat.le_refl k)
      rw [ek]
      refine wp_gd (by omega) (wp_gd (a4 k).1 (wp_gd h1 (wp_if (fun c2 => ?_) (fun c2 => ?_))))
      · exact wp_vl (wp_go ⟨by omega, by show y.2.1 + 1 = _; omega, ⟨to, a2, a3.skip (fun z => z (Or.inl (by omega)))⟩, a4⟩)
      · refine wp_gd (by omega) (wp_gd (a4 k).2 (wp_if (fun c3 => ?_) (fun c3 => ?_)))
        · exact wp_vl (wp_go ⟨by omega, by show y.2.1 + 1 = _; omega, ⟨to, a2, a3.skip (fun z => z (Or.inr (by omega)))⟩, a4⟩)
        · exact wp_eq (q_keepFixed a1 a2 (by omega) (by omega) y.2.2) (wp_vl (wp_vl (wp_go ⟨by omega, by show y.2.1 + 1 = _; omega, ⟨to + 1, by show y.1 + 1 = _; omega, a3.keep (fun z => by rcases z with z | z <;> omega)⟩, r4_inI a4⟩)))
  · rintro ⟨t5, y3, y4, r1, r2, r3, r4'⟩ hu
    exact wp_some hu
set_option maxHeartbeats 1000000 in
theorem q_unfixOver {fm : Nat} (hfm : fm ≤ 36) {o : r4} (hI : ∀ i, inI (o.1 i) ∧ inI (o.2.1 i)) {x1 mm : Int} (h1 : inI x1) (em : mm = fm) : wp (m_X9_unfixOver x1 mm o.1 o.2.1 o.2.2.1 o.2.2.2) (fun u => ∃ to : Nat, u.1 = to ∧ FP (fun f => ¬ (o.1 f < x1 ∧ x1 < o.2.1 f)) o fm to u.2 ∧ ∀ i, inI (u.2.1 i) ∧ inI (u.2.2.1 i)) := by
  unfold m_X9_unfixOver
  refine wp_bind (P := fun u : Nat × Int × Int × r4 => ∃ to : Nat, u.2.1 = to ∧ FP (fun f => ¬ (o.1 f < x1 ∧ x1 < o.2.1 f)) o fm to u.2.2.2 ∧ ∀ i, inI (u.2.2.2.1 i) ∧ inI (u.2.2.2.2.1 i)) (wp_loop (fun k y => y.2.1 = (k : Int) ∧ (∃ to : Nat, y.1 = to ∧ FP (fun f => ¬ (o.1 f < x1 ∧ x1 < o.2.1 f)) o k to y.2.2) ∧ ∀ i, inI (y.2.2.1 i) ∧ inI (y.2.2.2.1 i)) fm (by omega) ⟨rfl, ⟨0, rfl, FP.start⟩, hI⟩ ?_) ?_
  · intro k y hk hs
    obtain ⟨a1, ⟨to, a2, a3⟩, a4⟩ := hs
    have hto := a3.1
    unfold m_X9_unfixOver_4
    refine wp_gd (by omega) (wp_gd (by omega) (wp_if (fun c1 => ?_) (fun c1 => ?_)))
    · refine wp_end (by decide) ⟨to, a2, ?_, a4⟩
      rw [show fm = k by omega]
      exact a3
    · have ek : y.2.1.toNat = k := by omega
      obtain ⟨q1, q2, _⟩ := a3.2.1 k (Nat.le_refl k)
      rw [ek]
      have hkeep : (fun f => ¬ (o.1 f < x1 ∧ x1 < o.2.1 f)) k → wp (m_X9_unfixOver_35 x1 y.1 y.2.1 mm y.2.2.1 y.2.2.2.1 y.2.2.2.2.1 y.2.2.2.2.2) (fun u : Nat × Int × Int × r4 => (u.1 = 0 → k < fm ∧ u.2.2.1 = ((k + 1 : Nat) : Int) ∧ (∃ to : Nat, u.2.1 = to ∧ FP (fun f => ¬ (o.1 f < x1 ∧ x1 < o.2.1 f)) o (k + 1) to u.2.2.2) ∧ ∀ i, inI (u.2.2.2.1 i) ∧ inI (u.2.2.2.2.1 i)) ∧ (u.1 ≠ 0 → ∃ to : Nat, u.2.1 = to ∧ FP (fun f => ¬ (o.1 f < x1 ∧ x1 < o.2.1 f)) o fm to u.2.2.2 ∧ ∀ i, inI (u.2.2.2.1 i) ∧ inI (u.2.2.2.2.1 i))) := by
        intro hkp
        unfold m_X9_unfixOver_35
        exact wp_eq (q_keepFixed a1 a2 (by omega) (by omega) y.2.2) (wp_vl (wp_vl (wp_go ⟨by omega, by show y.2.1 + 1 = _; omega, ⟨to + 1, by show y.1 + 1 = _; omega, a3.keep hkp⟩, r4_inI a4⟩)))
      refine wp_gd (by omega) (wp_gd (a4 k).1 (wp_gd h1 (wp_if (fun c2 => ?_) (fun c2 => ?_))))
      · exact hkeep (fun z => by have := z.1; omega)
      · refine wp_gd (by omega) (wp_gd (a4 k).2 (wp_if (fun c3 => ?_) (fun c3 => ?_)))
        · exact hkeep (fun z => by have := z.2; omega)
        · exact wp_vl (wp_go ⟨by omega, by show y.2.1 + 1 = _; omega, ⟨to, a2, a3.skip (fun z => z ⟨by omega, by omega⟩)⟩, a4⟩)
  · rintro ⟨t5, y3, y4, r1, r2, r3, r4'⟩ hu
    exact wp_some hu
/-- a row with some of its first places emptied -/
def zap (P : Nat → Prop) [DecidablePred P] (f : Nat → Int) (k : Nat) : Nat → Int := fun i => if i < k ∧ P i then 0 else f i
theorem zap_0 (P : Nat → Prop) [DecidablePred P] (f : Nat → Int) : zap P f 0 = f := by
  funext i
  unfold zap
  rw [if_neg (fun h => absurd h.1 (by omega))]
theorem zap_skip (P : Nat → Prop) [DecidablePred P] (f : Nat → Int) {k : Nat} (h : ¬ P k) : zap P f (k + 1) = zap P f k := by
  funext i
  unfold zap
  by_cases hi : i < k ∧ P i
  · rw [if_pos hi, if_pos ⟨by omega, hi.2⟩]
  · rw [if_neg hi, if_neg (fun z => hi ⟨by
      by_cases hik : i = k
      · subst hik
        exact absurd z.2 h
      · omega, z.2⟩)]
theorem zap_put (P : Nat → Prop) [DecidablePred P] (f : Nat → Int) {k : Nat} (h : P k) : uz (zap P f k) k 0 = zap P f (k + 1) := by
  funext i
  unfold uz zap
  by_cases hik : i = k
  · subst hik
    rw [if_pos rfl, if_pos ⟨by omega, h⟩]
  · rw [if_neg hik]
    by_cases hi : i < k ∧ P i
    · rw [if_pos hi, if_pos ⟨by omega, hi.2⟩]
    · rw [if_neg hi, if_neg (fun z => hi ⟨by omega, z.2⟩)]
theorem zap_at (P : Nat → Prop) [DecidablePred P] (f : Nat → Int) {k i : Nat} (h : k ≤ i) : zap P f k i = f i := by
  unfold zap
  rw [if_neg (fun z => absurd z.1 (by omega))]
theorem zap_inI {P : Nat → Prop} [DecidablePred P] {f : Nat → Int} (hf : ∀ i, inI (f i)) (k : Nat) : ∀ i, inI (zap P f k i) := by
  intro i
  unfold zap
  by_cases h : i < k ∧ P i
  · rw [if_pos h]
    decide
  · rw [if_neg h]
    exact hf i
theorem q_wantBreak {br : Nat → Int} {n p : Nat} (hn : n ≤ 36) (hp : p ≤ 36) {x sl : Int} (e : x = p) (es : sl = n) : m_X4_wantBreak x sl br = some (if 0 < p ∧ p < n then uz br p 1 else br) := by
  refine wp_out ?_
  unfold m_X4_wantBreak
  refine wp_gd (by omega) (wp_if (fun c1 => ?_) (fun c1 => ?_))
  · refine wp_some ?_
    rw [if_neg (by omega)]
  · refine wp_gd (by omega) (wp_if (fun c2 => ?_) (fun c2 => ?_))
    · refine wp_some ?_
      rw [if_neg (by omega)]
    · rw [show x.toNat = p by omega]
      refine wp_gd (by omega) (wp_vl (wp_some ?_))
      rw [if_pos (by omega)]
set_option maxHeartbeats 1000000 in
theorem q_fix {fx br : Nat → Int} (hfx : ∀ i, inI (fx i)) {n a b e : Nat} (hn : n ≤ 36) (hab : a < b) (hbn : b ≤ n) {x1 x2 x3 sl : Int} (e1 : x1 = a) (e2 : x2 = b) (e3 : x3 = e) (es : sl = n) : wp (m_X4_fix x1 x2 x3 sl br fx) (fun u => u.2 = uz (zap (fun i => (a : Int) < fx i / 1024) fx b) a (b * 1024 + e) ∧ u.1 = (if 0 < b ∧ b < n then uz (if 0 < a ∧ a < n then uz (fz br (a + 1) b 2) a 1 else fz br (a + 1) b 2) b 1 else (if 0 < a ∧ a < n then uz (fz br (a + 1) b 2) a 1 else fz br (a + 1) b 2))) := by
  unfold m_X4_fix
  refine wp_bind (P := fun u : Nat × Int × (Nat → Int) => u.2.2 = zap (fun i => (a : Int) < fx i / 1024) fx b) (wp_loop (fun k y => y.1 = (k : Int) ∧ y.2 = zap (fun i => (a : Int) < fx i / 1024) fx k) b (by omega) ⟨rfl, (zap_0 _ fx).symm⟩ ?_) ?_
  · intro k y hk hs
    obtain ⟨a1, a2⟩ := hs
    unfold m_X4_fix_3
    have hfk : y.2 k = fx k := by rw [a2, zap_at _ _ (Nat.le_refl k)]
    have hI := hfx k
    refine wp_gd (by omega) (wp_gd (by omega) (wp_if (fun c1 => ?_) (fun c1 => ?_)))
    · refine wp_end (by decide) ?_
      show y.2 = _
      rw [a2, show k = b by omega]
    · rw [show y.1.toNat = k by omega, hfk]
      refine wp_gd (by omega) (wp_gd hI (wp_gd (by omega) (wp_gd (by omega) (wp_if (fun c2 => ?_) (fun c2 => ?_)))))
      · refine wp_vl (wp_go ⟨by omega, by show y.1 + 1 = _; omega, ?_⟩)
        show y.2 = _
        rw [a2, zap_skip _ fx (by omega)]
      · refine wp_gd (by omega) (wp_vl (wp_vl (wp_go ⟨by omega, by show y.1 + 1 = _; omega, ?_⟩)))
        show uz y.2 k 0 = _
        rw [a2, zap_put _ fx (by omega)]
  · rintro ⟨t3, y4, f2⟩ hu
    have hu : f2 = zap (fun i => (a : Int) < fx i / 1024) fx b := hu
    subst hu
    rw [show x1.toNat = a by omega]
    refine wp_gd (by omega) (wp_vl (wp_eq (q_fillRange (by omega) (by omega) (by omega) ⟨by decide, by omega⟩) (wp_eq (q_wantBreak hn (p := a) (by omega) e1 es) (wp_eq (q_wantBreak hn (p := b) (by omega) e2 es) (wp_some ⟨?_, ?_⟩)))))
    · show uz _ a (x2 * 1024 + x3) = _
      rw [e2, e3]
    · rw [show (x1 + 1).toNat = a + 1 by omega, show x2.toNat = b by omega]
end
section
/-! the fixed parts of both sides, when one is chosen -/
theorem pigeon : ∀ (N m : Nat) (g : Nat → Nat), (∀ i, i < m → g i < N) → (∀ i j, i < m → j < m → g i = g j → i = j) → m ≤ N := by
  intro N
  induction N with
  | zero =>
    intro m g h1 _
    rcases Nat.eq_zero_or_pos m with h | h
    · omega
    · have := h1 0 h
      omega
  | succ N ih =>
    intro m g h1 h2
    by_cases hex : ∃ i, i < m ∧ g i = N
    · obtain ⟨i, hi, hg⟩ := hex
      have h3 := ih (m - 1) (fun j => if j = i then g (m - 1) else g j) (fun j hj => ?_) (fun j k hj hk he => ?_)
      · omega
      · show (if j = i then g (m - 1) else g j) < N
        by_cases hji : j = i
        · rw [if_pos hji]
          have h4 := h1 (m - 1) (by omega)
          have h5 : g (m - 1) ≠ N := fun z => by
            have := h2 (m - 1) i (by omega) hi (by omega)
            omega
          omega
        · rw [if_neg hji]
          have h4 := h1 j (by omega)
          have h5 : g j ≠ N := fun z => hji (h2 j i (by omega) hi (by omega))
          omega
      · have he : (if j = i then g (m - 1) else g j) = (if k = i then g (m - 1) else g k) := he
        by_cases hji : j = i
        · by_cases hki : k = i
          · omega
          · rw [if_pos hji, if_neg hki] at he
            have := h2 (m - 1) k (by omega) (by omega) he
            omega
        · by_cases hki : k = i
          · rw [if_neg hji, if_pos hki] at he
            have := h2 j (m - 1) (by omega) (by omega) he
            omega
          · rw [if_neg hji, if_neg hki] at he
            exact h2 j k (by omega) (by omega) he
    · have := ih m g (fun i hi => by
        have h4 := h1 i hi
        have h5 : g i ≠ N := fun z => hex ⟨i, hi, z⟩
        omega) h2
      omega
/-- a book with another row -/
def upB (B : Nat → Nat → Int) (k : Nat) (r : Nat → Int) : Nat → Nat → Int := fun j => if j = k then r else B j
theorem upB_at (B : Nat → Nat → Int) (k : Nat) (r : Nat → Int) : upB B k r k = r := by
  unfold upB
  rw [if_pos rfl]
theorem upB_ne (B : Nat → Nat → Int) {k j : Nat} (r : Nat → Int) (h : j ≠ k) : upB B k r j = B j := by
  unfold upB
  rw [if_neg h]
/-- two books that differ in breaks and fixed parts alone -/
def same19 (B B' : Nat → Nat → Int) : Prop := ∀ j, j ≠ 17 → j ≠ 19 → B' j = B j
theorem EV_same {B B' : Nat → Nat → Int} (h : same19 B B') (e : Int) : EV B' e ↔ EV B e := by
  unfold EV
  rw [h 18 (by decide) (by decide), h 11 (by decide) (by decide), h 7 (by decide) (by decide)]
set_option maxHeartbeats 2000000 in
theorem FX_choose {B B' : Nat → Nat → Int} (hs : same19 B B') {n fm to a b : Nat} (hn : n ≤ 36) (hab : a < b) (hbn : b ≤ n) {o r : r4} {w e : Int} (hF : FX B n fm o.1 o.2.1 o.2.2.1 o.2.2.2) (hP : FP (fun f => ¬ (o.1 f < (b : Int) ∧ (a : Int) < o.2.1 f)) o fm to r) (hw : 0 ≤ w ∧ w ≤ 60 ∧ -1 ≤ e ∧ e < 8 ∧ (w = 60 → e = -1)) (hev : EV B (9 * w + e + 1)) (h19 : B' 19 = uz (zap (fun i => (a : Int) < B 19 i / 1024) (B 19) b) a (b * 1024 + (9 * w + e + 1))) (h17a : ∀ p, a < p → p < b → B' 17 p = 2) (h17b : 0 < a → B' 17 a = 1) (h17c : b < n → B' 17 b = 1) (h17d : ∀ p, (p < a ∨ b < p) → B' 17 p = B 17 p) :
    to < 36 ∧ FX B' n (to + 1) (uz r.1 to a) (uz r.2.1 to b) (uz r.2.2.1 to w) (uz r.2.2.2 to e) := by
  obtain ⟨hfm, hf, hback, hinj⟩ := hF
  obtain ⟨hto, hrest, ix, i1, i2, i3⟩ := hP
  have hK : ∀ f, f < to → (∃ g, g < fm ∧ r4eq r o f g ∧ (o.2.1 g ≤ a ∨ (b : Int) ≤ o.1 g)) := by
    intro f hf'
    obtain ⟨g1, g2, g3⟩ := i1 f hf'
    exact ⟨ix f, g1, g3, by omega⟩
  have hne : ∀ f, f < to → r.1 f ≠ a := by
    intro f hf' hz
    obtain ⟨g, g1, g2, g3⟩ := hK f hf'
    obtain ⟨⟨p1, p2, p3⟩, _⟩ := hf g g1
    have := g2.1
    omega
  have hinj2 : ∀ f g, f < to → g < to → r.1 f = r.1 g → f = g := by
    intro f g hf' hg' he
    obtain ⟨f1, _, f3⟩ := i1 f hf'
    obtain ⟨g1, _, g3⟩ := i1 g hg'
    have h1 : ix f = ix g := hinj _ _ f1 g1 (by rw [← f3.1, ← g3.1]; exact he)
    rcases Nat.lt_trichotomy f g with h | h | h
    · have := i3 f g h hg'
      omega
    · exact h
    · have := i3 g f h hf'
      omega
  have hrange : ∀ f, f < to → 0 ≤ r.1 f ∧ r.1 f < n := by
    intro f hf'
    obtain ⟨g, g1, g2, g3⟩ := hK f hf'
    obtain ⟨⟨p1, p2, p3⟩, _⟩ := hf g g1
    have := g2.1
    omega
  have ht : to + 1 ≤ 36 := by
    refine Nat.le_trans (pigeon n (to + 1) (fun i => if i = to then a else (r.1 i).toNat) (fun i hi => ?_) (fun i j hi hj he => ?_)) hn
    · show (if i = to then a else (r.1 i).toNat) < n
      by_cases h : i = to
      · rw [if_pos h]
        omega
      · rw [if_neg h]
        have := hrange i (by omega)
        omega
    · have he : (if i = to then a else (r.1 i).toNat) = (if j = to then a else (r.1 j).toNat) := he
      by_cases hi2 : i = to
      · by_cases hj2 : j = to
        · omega
        · rw [if_pos hi2, if_neg hj2] at he
          have h1 := hrange j (by omega)
          exact absurd (by omega) (hne j (by omega))
      · by_cases hj2 : j = to
        · rw [if_neg hi2, if_pos hj2] at he
          have h1 := hrange i (by omega)
          exact absurd (by omega) (hne i (by omega))
        · rw [if_neg hi2, if_neg hj2] at he
          have h1 := hrange i (by omega)
          have h2 := hrange j (by omega)
          exact hinj2 i j (by omega) (by omega) (by omega)
  refine ⟨by omega, ht, fun f hf' => ?_, fun i hi hz => ?_, fun f g hf' hg' he => ?_⟩
  · by_cases hft : f = to
    · rw [hft, uz_at, uz_at, uz_at, uz_at]
      refine ⟨by omega, by omega, (EV_same hs _).mpr hev, ?_, ?_, ?_, fun p h1 h2 => h17a p (by omega) (by omega)⟩
      · rw [h19, Int.toNat_natCast, uz_at]
        omega
      · rcases Nat.eq_zero_or_pos a with h | h
        · exact Or.inl (by omega)
        · exact Or.inr (by rw [Int.toNat_natCast]; exact h17b h)
      · by_cases h : b = n
        · exact Or.inl (by omega)
        · exact Or.inr (by rw [Int.toNat_natCast]; exact h17c (by omega))
    · rw [uz_ne _ _ hft, uz_ne _ _ hft, uz_ne _ _ hft, uz_ne _ _ hft]
      obtain ⟨g, g1, g2, g3⟩ := hK f (by omega)
      obtain ⟨⟨p1, p2, p3⟩, q1, q2, q3, q4, q5, q6⟩ := hf g g1
      rw [g2.1, g2.2.1, g2.2.2.1, g2.2.2.2]
      have hna : (o.1 g).toNat ≠ a := by
        have := hne f (by omega)
        rw [g2.1] at this
        omega
      refine ⟨⟨p1, p2, p3⟩, q1, (EV_same hs _).mpr q2, ?_, ?_, ?_, fun p h1 h2 => ?_⟩
      · rw [h19, uz_ne _ _ hna]
        unfold zap
        rw [if_neg ?_]
        · exact q3
        · rintro ⟨z1, z2⟩
          rw [q3] at z2
          have he : 9 * o.2.2.1 g + o.2.2.2 g + 1 ≤ 540 := by omega
          omega
      · rcases q4 with z | z
        · exact Or.inl z
        · refine Or.inr ?_
          by_cases hb : (o.1 g).toNat = b
          · rw [hb]
            exact h17c (by omega)
          · rw [h17d _ (by omega)]
            exact z
      · rcases q5 with z | z
        · exact Or.inl z
        · refine Or.inr ?_
          by_cases ha' : (o.2.1 g).toNat = a
          · rw [ha']
            exact h17b (by omega)
          · rw [h17d _ (by omega)]
            exact z
      · rw [h17d p (by omega)]
        exact q6 p h1 h2
  · rw [h19] at hz
    by_cases hia : i = a
    · exact ⟨to, by omega, by rw [uz_at, hia]⟩
    · rw [uz_ne _ _ hia] at hz
      unfold zap at hz
      by_cases hzz : i < b ∧ (a : Int) < B 19 i / 1024
      · rw [if_pos hzz] at hz
        exact absurd rfl hz
      · rw [if_neg hzz] at hz
        obtain ⟨f, f1, f2⟩ := hback i hi hz
        obtain ⟨⟨p1, p2, p3⟩, q1, q2, q3, _⟩ := hf f f1
        have hkeep : ¬ (o.1 f < (b : Int) ∧ (a : Int) < o.2.1 f) := by
          rintro ⟨z1, z2⟩
          refine hzz ⟨by omega, ?_⟩
          rw [show i = (o.1 f).toNat by omega, q3]
          omega
        obtain ⟨f', g1, g2⟩ := i2 f f1 hkeep
        have g3 := (i1 f' g1).2.2.1
        refine ⟨f', by omega, ?_⟩
        rw [uz_ne _ _ (by omega), g3, g2]
        exact f2
  · by_cases h1 : f = to
    · by_cases h2 : g = to
      · omega
      · rw [h1, uz_at, uz_ne _ _ h2] at he
        exact absurd he.symm (hne g (by omega))
    · by_cases h2 : g = to
      · rw [h2, uz_at, uz_ne _ _ h1] at he
        exact absurd he (hne f (by omega))
      · rw [uz_ne _ _ h1, uz_ne _ _ h2] at he
        exact hinj2 f g (by omega) (by omega) he
end
section
/-! the fixed parts of both sides, when a break is moved -/
theorem FP.comp {A Bk B0 : Nat → Prop} {o r r2 : r4} {fm t1 t2 : Nat} (h1 : FP A o fm t1 r) (h2 : FP Bk r t1 t2 r2) (hb : ∀ f g, r4eq r o f g → (Bk f ↔ B0 g)) : ∃ ix : Nat → Nat, t2 ≤ fm ∧ (∀ f, f < t2 → ix f < fm ∧ (A (ix f) ∧ B0 (ix f)) ∧ r4eq r2 o f (ix f)) ∧ (∀ f, f < fm → A f ∧ B0 f → ∃ f', f' < t2 ∧ ix f' = f) ∧ ∀ f g, f < g → g < t2 → ix f < ix g := by
  obtain ⟨a1, a2, ix, a3, a4, a5⟩ := h1
  obtain ⟨b1, b2, jx, b3, b4, b5⟩ := h2
  refine ⟨fun f => ix (jx f), by omega, fun f hf => ?_, fun f hf hk => ?_, fun f g hfg hg => ?_⟩
  · obtain ⟨c1, c2, c3⟩ := b3 f hf
    obtain ⟨d1, d2, d3⟩ := a3 (jx f) c1
    refine ⟨d1, ⟨d2, (hb _ _ d3).mp c2⟩, c3.1.trans d3.1, c3.2.1.trans d3.2.1, c3.2.2.1.trans d3.2.2.1, c3.2.2.2.trans d3.2.2.2⟩
  · obtain ⟨f1, c1, c2⟩ := a4 f hf hk.1
    have d3 := (a3 f1 c1).2.2
    rw [c2] at d3
    obtain ⟨f2, e1, e2⟩ := b4 f1 c1 ((hb _ _ d3).mpr hk.2)
    exact ⟨f2, e1, by show ix (jx f2) = f; rw [e2]; exact c2⟩
  · exact a5 _ _ (b5 f g hfg hg) (b3 g hg).1
set_option maxHeartbeats 1000000 in
/-- those that are kept stand, if nothing of them has changed -/
theorem FX_filter {B B' : Nat → Nat → Int} (hs : same19 B B') {n fm t2 : Nat} {o r2 : r4} {Kp : Nat → Prop} (hF : FX B n fm o.1 o.2.1 o.2.2.1 o.2.2.2) (hix : ∃ ix : Nat → Nat, t2 ≤ fm ∧ (∀ f, f < t2 → ix f < fm ∧ Kp (ix f) ∧ r4eq r2 o f (ix f)) ∧ (∀ f, f < fm → Kp f → ∃ f', f' < t2 ∧ ix f' = f) ∧ ∀ f g, f < g → g < t2 → ix f < ix g)
    (h19 : ∀ f, f < fm → Kp f → B' 19 (o.1 f).toNat = B 19 (o.1 f).toNat) (h17a : ∀ f, f < fm → Kp f → o.1 f = 0 ∨ B' 17 (o.1 f).toNat = 1) (h17b : ∀ f, f < fm → Kp f → o.2.1 f = n ∨ B' 17 (o.2.1 f).toNat = 1) (h17c : ∀ f, f < fm → Kp f → ∀ p : Nat, o.1 f < p → p < o.2.1 f → B' 17 p = 2) (hback2 : ∀ i, i < 36 → B' 19 i ≠ 0 → B 19 i ≠ 0 ∧ ∀ f, f < fm → o.1 f = i → Kp f) : FX B' n t2 r2.1 r2.2.1 r2.2.2.1 r2.2.2.2 := by
  obtain ⟨hfm, hf, hback, hinj⟩ := hF
  obtain ⟨ix, i0, i1, i2, i3⟩ := hix
  refine ⟨by omega, fun f hf' => ?_, fun i hi hz => ?_, fun f g hf' hg' he => ?_⟩
  · obtain ⟨g1, g2, g3⟩ := i1 f hf'
    obtain ⟨p1, q1, q2, q3, _⟩ := hf (ix f) g1
    rw [g3.1, g3.2.1, g3.2.2.1, g3.2.2.2]
    exact ⟨p1, q1, (EV_same hs _).mpr q2, by rw [h19 _ g1 g2]; exact q3, h17a _ g1 g2, h17b _ g1 g2, h17c _ g1 g2⟩
  · obtain ⟨z1, z2⟩ := hback2 i hi hz
    obtain ⟨f, f1, f2⟩ := hback i hi z1
    obtain ⟨f', e1, e2⟩ := i2 f f1 (z2 f f1 f2)
    have := (i1 f' e1).2.2.1
    exact ⟨f', e1, by rw [this, e2]; exact f2⟩
  · obtain ⟨f1, _, f3⟩ := i1 f hf'
    obtain ⟨g1, _, g3⟩ := i1 g hg'
    have h1 : ix f = ix g := hinj _ _ f1 g1 (by rw [← f3.1, ← g3.1]; exact he)
    rcases Nat.lt_trichotomy f g with h | h | h
    · have := i3 f g h hg'
      omega
    · exact h
    · have := i3 g f h hf'
      omega
/-- what the class lets go when a break is moved -/
def mvP (fx : Nat → Int) (p : Nat) (how : Int) (i : Nat) : Prop := ((i < p ∧ (p : Int) < fx i / 1024) ∧ how ≠ 2) ∨ ((i = p ∨ fx i / 1024 = p) ∧ how ≠ 1)
set_option maxHeartbeats 1000000 in
theorem q_moveBreak {fx br : Nat → Int} (hfx : ∀ i, inI (fx i)) {p : Nat} (hp : p < 36) {x1 how : Int} (e1 : x1 = p) (hh : 0 ≤ how ∧ how ≤ 2) : wp (m_X4_moveBreak x1 how br fx) (fun u => u.1 = uz br p how ∧ ∀ i, (i ≤ p ∧ mvP fx p how i → u.2 i = 0) ∧ (¬ (i ≤ p ∧ mvP fx p how i) → u.2 i = fx i)) := by
  unfold m_X4_moveBreak
  rw [show x1.toNat = p by omega]
  refine wp_gd (by omega) (wp_vl (wp_bind (P := fun u : Nat × Int × (Nat → Int) => ∀ i, (i < p + 1 ∧ mvP fx p how i → u.2.2 i = 0) ∧ (¬ (i < p + 1 ∧ mvP fx p how i) → u.2.2 i = fx i)) (wp_loop (fun k y => y.1 = (k : Int) ∧ ∀ i, (i < k ∧ mvP fx p how i → y.2 i = 0) ∧ (¬ (i < k ∧ mvP fx p how i) → y.2 i = fx i)) (p + 1) (by omega) ⟨rfl, fun i => ⟨fun h => absurd h.1 (by omega), fun _ => rfl⟩⟩ ?_) ?_))
  · intro k y hk hs
    obtain ⟨a1, a2⟩ := hs
    have hyk : y.2 k = fx k := (a2 k).2 (fun h => absurd h.1 (by omega))
    have hI := hfx k
    have ek : y.1.toNat = k := by omega
    have hskip : ¬ mvP fx p how k → ∀ i, (i < k + 1 ∧ mvP fx p how i → y.2 i = 0) ∧ (¬ (i < k + 1 ∧ mvP fx p how i) → y.2 i = fx i) := by
      intro hno i
      by_cases hik : i = k
      · subst hik
        exact ⟨fun h => absurd h.2 hno, fun _ => hyk⟩
      · exact ⟨fun h => (a2 i).1 ⟨by omega, h.2⟩, fun h => (a2 i).2 (fun z => h ⟨by omega, z.2⟩)⟩
    have hput : mvP fx p how k → ∀ i, (i < k + 1 ∧ mvP fx p how i → uz y.2 k 0 i = 0) ∧ (¬ (i < k + 1 ∧ mvP fx p how i) → uz y.2 k 0 i = fx i) := by
      intro hyes i
      by_cases hik : i = k
      · subst hik
        rw [uz_at]
        exact ⟨fun _ => rfl, fun h => absurd ⟨by omega, hyes⟩ h⟩
      · rw [uz_ne _ _ hik]
        exact ⟨fun h => (a2 i).1 ⟨by omega, h.2⟩, fun h => (a2 i).2 (fun z => h ⟨by omega, z.2⟩)⟩
    unfold m_X4_moveBreak_9
    refine wp_gd (by omega) (wp_gd (by omega) (wp_if (fun c1 => ?_) (fun c1 => ?_)))
    · refine wp_end (by decide) ?_
      rw [show p + 1 = k by omega]
      exact a2
    · rw [ek, hyk]
      have h81 : mvP fx p how k → k < p + 1 → wp (m_X4_moveBreak_81 x1 how y.1 (uz br p how) y.2) (fun u : Nat × Int × (Nat → Int) => (u.1 = 0 → k < p + 1 ∧ u.2.1 = ((k + 1 : Nat) : Int) ∧ ∀ i, (i < k + 1 ∧ mvP fx p how i → u.2.2 i = 0) ∧ (¬ (i < k + 1 ∧ mvP fx p how i) → u.2.2 i = fx i)) ∧ (u.1 ≠ 0 → ∀ i, (i < p + 1 ∧ mvP fx p how i → u.2.2 i = 0) ∧ (¬ (i < p + 1 ∧ mvP fx p how i) → u.2.2 i = fx i))) := by
        intro hyes hkp
        unfold m_X4_moveBreak_81
        rw [ek]
        exact wp_gd (by omega) (wp_vl (wp_vl (wp_go ⟨by omega, by show y.1 + 1 = _; omega, hput hyes⟩)))
      have h71 : ∀ x6 : Int, ((x6 = 1 ∧ (k = p ∨ fx k / 1024 = p)) ∨ (x6 = 0 ∧ ¬ (k = p ∨ fx k / 1024 = p))) → ¬ ((k < p ∧ (p : Int) < fx k / 1024) ∧ how ≠ 2) → k < p + 1 → wp (m_X4_moveBreak_71 x1 how y.1 x6 (uz br p how) y.2) (fun u : Nat × Int × (Nat → Int) => (u.1 = 0 → k < p + 1 ∧ u.2.1 = ((k + 1 : Nat) : Int) ∧ ∀ i, (i < k + 1 ∧ mvP fx p how i → u.2.2 i = 0) ∧ (¬ (i < k + 1 ∧ mvP fx p how i) → u.2.2 i = fx i)) ∧ (u.1 ≠ 0 → ∀ i, (i < p + 1 ∧ mvP fx p how i → u.2.2 i = 0) ∧ (¬ (i < p + 1 ∧ mvP fx p how i) → u.2.2 i = fx i))) := by
        intro x6 h6 hov hkp
        unfold m_X4_moveBreak_71
        refine wp_gd (by omega) (wp_if (fun c => ?_) (fun c => ?_))
        · refine wp_vl (wp_go ⟨by omega, by show y.1 + 1 = _; omega, hskip ?_⟩)
          rintro (z | z)
          · exact hov z
          · rcases h6 with ⟨z1, _⟩ | ⟨_, z2⟩
            · omega
            · exact z2 z.1
        · refine wp_gd (by omega) (wp_if (fun c2 => ?_) (fun c2 => ?_))
          · refine wp_vl (wp_go ⟨by omega, by show y.1 + 1 = _; omega, hskip ?_⟩)
            rintro (z | z)
            · exact hov z
            · exact z.2 c2
          · refine h81 (Or.inr ⟨?_, c2⟩) hkp
            rcases h6 with ⟨_, z2⟩ | ⟨z1, _⟩
            · exact z2
            · omega
      have h59 : ∀ x5 x6 : Int, ((x5 = 1 ∧ (k < p ∧ (p : Int) < fx k / 1024)) ∨ (x5 = 0 ∧ ¬ (k < p ∧ (p : Int) < fx k / 1024))) → ((x6 = 1 ∧ (k = p ∨ fx k / 1024 = p)) ∨ (x6 = 0 ∧ ¬ (k = p ∨ fx k / 1024 = p))) → k < p + 1 → wp (m_X4_moveBreak_59 x1 how y.1 x5 x6 (uz br p how) y.2) (fun u : Nat × Int × (Nat → Int) => (u.1 = 0 → k < p + 1 ∧ u.2.1 = ((k + 1 : Nat) : Int) ∧ ∀ i, (i < k + 1 ∧ mvP fx p how i → u.2.2 i = 0) ∧ (¬ (i < k + 1 ∧ mvP fx p how i) → u.2.2 i = fx i)) ∧ (u.1 ≠ 0 → ∀ i, (i < p + 1 ∧ mvP fx p how i → u.2.2 i = 0) ∧ (¬ (i < p + 1 ∧ mvP fx p how i) → u.2.2 i = fx i))) := by
        intro x5 x6 h5 h6 hkp
        unfold m_X4_moveBreak_59
        refine wp_gd (by omega) (wp_if (fun c => ?_) (fun c => ?_))
        · refine h71 x6 h6 (fun z => ?_) hkp
          rcases h5 with ⟨z1, _⟩ | ⟨_, z2⟩
          · omega
          · exact z2 z.1
        · refine wp_gd (by omega) (wp_if (fun c2 => ?_) (fun c2 => ?_))
          · exact h71 x6 h6 (fun z => z.2 c2) hkp
          · refine h81 (Or.inl ⟨?_, c2⟩) hkp
            rcases h5 with ⟨_, z2⟩ | ⟨z1, _⟩
            · exact z2
            · omega
      have h41 : ∀ x5 : Int, ((x5 = 1 ∧ (k < p ∧ (p : Int) < fx k / 1024)) ∨ (x5 = 0 ∧ ¬ (k < p ∧ (p : Int) < fx k / 1024))) → wp (m_X4_moveBreak_41 x1 how y.1 (fx k / 1024) x5 (uz br p how) y.2) (fun u : Nat × Int × (Nat → Int) => (u.1 = 0 → k < p + 1 ∧ u.2.1 = ((k + 1 : Nat) : Int) ∧ ∀ i, (i < k + 1 ∧ mvP fx p how i → u.2.2 i = 0) ∧ (¬ (i < k + 1 ∧ mvP fx p how i) → u.2.2 i = fx i)) ∧ (u.1 ≠ 0 → ∀ i, (i < p + 1 ∧ mvP fx p how i → u.2.2 i = 0) ∧ (¬ (i < p + 1 ∧ mvP fx p how i) → u.2.2 i = fx i))) := by
        intro x5 h5
        unfold m_X4_moveBreak_41 m_X4_moveBreak_54
        refine wp_gd (by omega) (wp_gd (by omega) (wp_if (fun c => ?_) (fun c => ?_)))
        · exact h59 x5 1 h5 (Or.inl ⟨rfl, Or.inl (by omega)⟩) (by omega)
        · refine wp_gd (by omega) (wp_if (fun c2 => ?_) (fun c2 => ?_))
          · exact h59 x5 1 h5 (Or.inl ⟨rfl, Or.inr (by omega)⟩) (by omega)
          · exact h59 x5 0 h5 (Or.inr ⟨rfl, by omega⟩) (by omega)
      refine wp_gd (by omega) (wp_gd hI (wp_vl (wp_if (fun c2 => ?_) (fun c2 => ?_))))
      · unfold m_X4_moveBreak_40
        exact h41 0 (Or.inr ⟨rfl, by omega⟩)
      · refine wp_gd (by omega) (wp_if (fun c3 => ?_) (fun c3 => ?_))
        · unfold m_X4_moveBreak_40
          exact h41 0 (Or.inr ⟨rfl, by omega⟩)
        · exact h41 1 (Or.inl ⟨rfl, by omega⟩)
  · rintro ⟨t9, y3, f2⟩ hu
    have hu : ∀ i, (i < p + 1 ∧ mvP fx p how i → f2 i = 0) ∧ (¬ (i < p + 1 ∧ mvP fx p how i) → f2 i = fx i) := hu
    exact wp_some ⟨rfl, fun i => ⟨fun h => (hu i).1 ⟨by omega, h.2⟩, fun h => (hu i).2 (fun z => h ⟨by omega, z.2⟩)⟩⟩
end
section
/-! the fixed parts of both sides, when a break is moved: they stay one -/
def mvK (o : r4) (p : Nat) (how : Int) (f : Nat) : Prop := (how ≠ 2 → ¬ (o.1 f < (p : Int) ∧ (p : Int) < o.2.1 f)) ∧ (how ≠ 1 → ¬ (o.1 f = p ∨ o.2.1 f = p))
set_option maxHeartbeats 1000000 in
theorem FX_move {B B' : Nat → Nat → Int} (hs : same19 B B') {n fm t2 p : Nat} (hn : n ≤ 36) (hp : 1 ≤ p ∧ p < n) {how : Int} (hh : 0 ≤ how ∧ how ≤ 2) {o r2 : r4} (hF : FX B n fm o.1 o.2.1 o.2.2.1 o.2.2.2) (hix : ∃ ix : Nat → Nat, t2 ≤ fm ∧ (∀ f, f < t2 → ix f < fm ∧ mvK o p how (ix f) ∧ r4eq r2 o f (ix f)) ∧ (∀ f, f < fm → mvK o p how f → ∃ f', f' < t2 ∧ ix f' = f) ∧ ∀ f g, f < g → g < t2 → ix f < ix g) (h17 : B' 17 = uz (B 17) p how) (h19 : ∀ i, (i ≤ p ∧ mvP (B 19) p how i → B' 19 i = 0) ∧ (¬ (i ≤ p ∧ mvP (B 19) p how i) → B' 19 i = B 19 i)) : FX B' n t2 r2.1 r2.2.1 r2.2.2.1 r2.2.2.2 := by
  have hf := hF.2.1
  have hend : ∀ f, f < fm → B 19 (o.1 f).toNat / 1024 = o.2.1 f := by
    intro f hf'
    obtain ⟨⟨p1, p2, p3⟩, q1, _, q3, _⟩ := hf f hf'
    rw [q3]
    omega
  have hnz : ∀ f, f < fm → mvK o p how f → ¬ ((o.1 f).toNat ≤ p ∧ mvP (B 19) p how (o.1 f).toNat) := by
    rintro f hf' hk ⟨z1, z2⟩
    obtain ⟨⟨p1, p2, p3⟩, _⟩ := hf f hf'
    unfold mvP at z2
    rw [hend f hf'] at z2
    rcases z2 with ⟨⟨y1, y2⟩, y3⟩ | ⟨y1, y2⟩
    · exact hk.1 y3 ⟨by omega, by omega⟩
    · exact hk.2 y2 (by omega)
  refine FX_filter hs hF hix (fun f hf' hk => (h19 _).2 (hnz f hf' hk)) (fun f hf' hk => ?_) (fun f hf' hk => ?_) (fun f hf' hk q g1 g2 => ?_) (fun i hi hz => ?_)
  · obtain ⟨⟨p1, p2, p3⟩, _, _, _, q4, _⟩ := hf f hf'
    rcases q4 with z | z
    · exact Or.inl z
    · refine Or.inr ?_
      rw [h17]
      by_cases hpp : (o.1 f).toNat = p
      · rw [hpp, uz_at]
        by_cases h1 : how = 1
        · exact h1
        · exact absurd (Or.inl (by omega)) (hk.2 h1)
      · rw [uz_ne _ _ hpp]
        exact z
  · obtain ⟨⟨p1, p2, p3⟩, _, _, _, _, q5, _⟩ := hf f hf'
    rcases q5 with z | z
    · exact Or.inl z
    · refine Or.inr ?_
      rw [h17]
      by_cases hpp : (o.2.1 f).toNat = p
      · rw [hpp, uz_at]
        by_cases h1 : how = 1
        · exact h1
        · exact absurd (Or.inr (by omega)) (hk.2 h1)
      · rw [uz_ne _ _ hpp]
        exact z
  · obtain ⟨_, _, _, _, _, _, q6⟩ := hf f hf'
    rw [h17]
    by_cases hqp : q = p
    · rw [hqp, uz_at]
      by_cases h2 : how = 2
      · exact h2
      · exact absurd ⟨by omega, by omega⟩ (hk.1 h2)
    · rw [uz_ne _ _ hqp]
      exact q6 q g1 g2
  · have hno : ¬ (i ≤ p ∧ mvP (B 19) p how i) := fun z => hz ((h19 i).1 z)
    refine ⟨by rw [← (h19 i).2 hno]; exact hz, fun f hf' he => ?_⟩
    obtain ⟨⟨p1, p2, p3⟩, _⟩ := hf f hf'
    have h5 := hend f hf'
    rw [show (o.1 f).toNat = i by omega] at h5
    refine ⟨fun h2 z => hno ⟨by omega, Or.inl ⟨⟨by omega, by omega⟩, h2⟩⟩, fun h1 z => hno ?_⟩
    rcases z with z | z
    · exact ⟨by omega, Or.inr ⟨Or.inl (by omega), h1⟩⟩
    · exact ⟨by omega, Or.inr ⟨Or.inr (by omega), h1⟩⟩
/-- a letter more: the break behind a fixed part at the line's end comes with it -/
theorem FX_type {B B' : Nat → Nat → Int} (hs : ∀ j, j ≠ 16 → j ≠ 17 → B' j = B j) {n fm : Nat} (hn : n < 36) {o : r4} (hF : FX B n fm o.1 o.2.1 o.2.2.1 o.2.2.2) {v : Int} (h17 : B' 17 = uz (B 17) n v) (hv : (∃ f, f < fm ∧ o.2.1 f = n) → v = 1) : FX B' (n + 1) fm o.1 o.2.1 o.2.2.1 o.2.2.2 := by
  obtain ⟨hfm, hf, hback, hinj⟩ := hF
  have h19 : B' 19 = B 19 := hs 19 (by decide) (by decide)
  refine ⟨hfm, fun f hf' => ?_, fun i hi hz => hback i hi (by rw [← h19]; exact hz), hinj⟩
  obtain ⟨⟨p1, p2, p3⟩, q1, q2, q3, q4, q5, q6⟩ := hf f hf'
  refine ⟨⟨p1, p2, by push_cast; omega⟩, q1, ?_, by rw [h19]; exact q3, ?_, ?_, fun q g1 g2 => ?_⟩
  · unfold EV at q2 ⊢
    rw [hs 18 (by decide) (by decide), hs 11 (by decide) (by decide), hs 7 (by decide) (by decide)]
    exact q2
  · rcases q4 with z | z
    · exact Or.inl z
    · exact Or.inr (by rw [h17, uz_ne _ _ (by omega)]; exact z)
  · refine Or.inr ?_
    rw [h17]
    rcases q5 with z | z
    · rw [show (o.2.1 f).toNat = n by omega, uz_at]
      exact hv ⟨f, hf', z⟩
    · by_cases hz : (o.2.1 f).toNat = n
      · rw [hz, uz_at]
        exact hv ⟨f, hf', by omega⟩
      · rw [uz_ne _ _ hz]
        exact z
  · rw [h17, uz_ne _ _ (by omega)]
    exact q6 q g1 g2
end
section
/-! how many parts are fixed -/
def cnt (f : Nat → Int) : Nat → Nat
  | 0 => 0
  | k + 1 => cnt f k + (if f k = 0 then 0 else 1)
theorem cnt_le (f : Nat → Int) : ∀ k, cnt f k ≤ k := by
  intro k
  induction k with
  | zero => exact Nat.le_refl _
  | succ k ih =>
    show cnt f k + (if f k = 0 then 0 else 1) ≤ k + 1
    by_cases h : f k = 0
    · rw [if_pos h]
      omega
    · rw [if_neg h]
      omega
theorem cnt_of (f : Nat → Int) : ∀ (N m : Nat) (g : Nat → Nat), (∀ i, i < m → g i < N ∧ f (g i) ≠ 0) → (∀ i j, i < m → j < m → g i = g j → i = j) → (∀ i, i < N → f i ≠ 0 → ∃ j, j < m ∧ g j = i) → cnt f N = m := by
  intro N
  induction N with
  | zero =>
    intro m g h1 _ _
    rcases Nat.eq_zero_or_pos m with h | h
    · rw [h]
      rfl
    · have := (h1 0 h).1
      omega
  | succ N ih =>
    intro m g h1 h2 h3
    show cnt f N + (if f N = 0 then 0 else 1) = m
    by_cases hN : f N = 0
    · rw [if_pos hN]
      refine ih m g (fun i hi => ⟨?_, (h1 i hi).2⟩) h2 (fun i hi hz => h3 i (by omega) hz)
      have h4 := h1 i hi
      have h5 : g i ≠ N := fun z => h4.2 (by rw [z]; exact hN)
      omega
    · rw [if_neg hN]
      obtain ⟨i0, hi0, hg⟩ := h3 N (by omega) hN
      have h6 := ih (m - 1) (fun j => if j = i0 then g (m - 1) else g j) (fun j hj => ?_) (fun j k hj hk he => ?_) (fun i hi hz => ?_)
      · omega
      · show (if j = i0 then g (m - 1) else g j) < N ∧ f (if j = i0 then g (m - 1) else g j) ≠ 0
        by_cases hji : j = i0
        · rw [if_pos hji]
          have h4 := h1 (m - 1) (by omega)
          have h5 : g (m - 1) ≠ N := fun z => by
            have := h2 (m - 1) i0 (by omega) hi0 (by omega)
            omega
          exact ⟨by omega, h4.2⟩
        · rw [if_neg hji]
          have h4 := h1 j (by omega)
          have h5 : g j ≠ N := fun z => hji (h2 j i0 (by omega) hi0 (by omega))
          exact ⟨by omega, h4.2⟩
      · have he : (if j = i0 then g (m - 1) else g j) = (if k = i0 then g (m - 1) else g k) := he
        by_cases hji : j = i0
        · by_cases hki : k = i0
          · omega
          · rw [if_pos hji, if_neg hki] at he
            have := h2 (m - 1) k (by omega) (by omega) he
            omega
        · by_cases hki : k = i0
          · rw [if_neg hji, if_pos hki] at he
            have := h2 j (m - 1) (by omega) (by omega) he
            omega
          · rw [if_neg hji, if_neg hki] at he
            exact h2 j k (by omega) (by omega) he
      · obtain ⟨j, hj, hgj⟩ := h3 i (by omega) hz
        have hji : j ≠ i0 := fun z => by rw [z] at hgj; omega
        by_cases hjm : j = m - 1
        · refine ⟨i0, by omega, ?_⟩
          show (if i0 = i0 then g (m - 1) else g i0) = i
          rw [if_pos rfl, ← hjm]
          exact hgj
        · refine ⟨j, by omega, ?_⟩
          show (if j = i0 then g (m - 1) else g j) = i
          rw [if_neg hji]
          exact hgj
theorem FX_cnt {B : Nat → Nat → Int} {n fm : Nat} (hn : n ≤ 36) {o : r4} (hF : FX B n fm o.1 o.2.1 o.2.2.1 o.2.2.2) : cnt (B 19) 36 = fm := by
  obtain ⟨hfm, hf, hback, hinj⟩ := hF
  refine cnt_of (B 19) 36 fm (fun f => (o.1 f).toNat) (fun f hf' => ?_) (fun f g hf' hg' he => ?_) (fun i hi hz => ?_)
  · obtain ⟨⟨p1, p2, p3⟩, q1, _, q3, _⟩ := hf f hf'
    show (o.1 f).toNat < 36 ∧ B 19 (o.1 f).toNat ≠ 0
    rw [q3]
    omega
  · have he : (o.1 f).toNat = (o.1 g).toNat := he
    obtain ⟨⟨p1, _⟩, _⟩ := hf f hf'
    obtain ⟨⟨q1, _⟩, _⟩ := hf g hg'
    exact hinj f g hf' hg' (by omega)
  · obtain ⟨f, f1, f2⟩ := hback i hi hz
    exact ⟨f, f1, by show (o.1 f).toNat = i; omega⟩
theorem q_fixedParts {fx : Nat → Int} (hfx : ∀ i, inI (fx i)) : m_X4_fixedParts fx = some (cnt fx 36 : Int) := by
  refine wp_out ?_
  unfold m_X4_fixedParts
  refine wp_bind (P := fun u : Nat × Int × Int => u.2.1 = (cnt fx 36 : Int)) (wp_loop (fun k y => y.2 = (k : Int) ∧ y.1 = (cnt fx k : Int)) 36 (by omega) ⟨rfl, rfl⟩ ?_) ?_
  · intro k y hk hs
    obtain ⟨a1, a2⟩ := hs
    have hc := cnt_le fx k
    unfold m_X4_fixedParts_4
    refine wp_gd (by omega) (wp_if (fun c1 => ?_) (fun c1 => ?_))
    · refine wp_end (by decide) ?_
      show y.1 = _
      rw [a2, show k = 36 by omega]
    · rw [show y.2.toNat = k by omega]
      refine wp_gd (by omega) (wp_gd (hfx _) (wp_if (fun c2 => ?_) (fun c2 => ?_)))
      · refine wp_vl (wp_go ⟨by omega, by show y.2 + 1 = _; omega, ?_⟩)
        show y.1 = ((cnt fx k + (if fx k = 0 then 0 else 1) : Nat) : Int)
        rw [if_pos c2]
        omega
      · refine wp_vl (wp_vl (wp_go ⟨by omega, by show y.2 + 1 = _; omega, ?_⟩))
        show y.1 + 1 = ((cnt fx k + (if fx k = 0 then 0 else 1) : Nat) : Int)
        rw [if_neg c2]
        omega
  · rintro ⟨t4, y1, y2⟩ hu
    exact wp_some hu
theorem q_fixedEndsAt {fx : Nat → Int} (hfx : ∀ i, inI (fx i)) {n : Nat} (hn : n ≤ 36) {x : Int} (e : x = n) : wp (m_X4_fixedEndsAt x fx) (fun v => (v = 1 ∧ ∃ i, i < n ∧ fx i / 1024 = n) ∨ (v = 0 ∧ ∀ i, i < n → fx i / 1024 ≠ n)) := by
  unfold m_X4_fixedEndsAt
  refine wp_bind (P := fun u : Nat × Int => (u.1 = 1 ∧ ∀ i, i < n → fx i / 1024 ≠ n) ∨ (u.1 = 2 ∧ ∃ i, i < n ∧ fx i / 1024 = n)) (wp_loop (fun k y => y = (k : Int) ∧ ∀ i, i < k → fx i / 1024 ≠ n) n (by omega) ⟨rfl, fun i h => absurd h (by omega)⟩ ?_) ?_
  · intro k y hk hs
    obtain ⟨a1, a2⟩ := hs
    have hI := hfx k
    unfold m_X4_fixedEndsAt_2
    refine wp_gd (by omega) (wp_gd (by omega) (wp_if (fun c1 => ?_) (fun c1 => ?_)))
    · exact wp_end (by decide) (Or.inl ⟨rfl, fun i hi => a2 i (by omega)⟩)
    · rw [show y.toNat = k by omega]
      refine wp_gd (by omega) (wp_gd hI (wp_gd (by omega) (wp_if (fun c2 => ?_) (fun c2 => ?_))))
      · exact wp_end (by decide) (Or.inr ⟨rfl, k, by omega, by omega⟩)
      · refine wp_vl (wp_go ⟨by omega, by show y + 1 = _; omega, fun i hi => ?_⟩)
        by_cases h : i = k
        · rw [h]
          omega
        · exact a2 i (by omega)
  · rintro ⟨t2, y⟩ hu
    have hu : (t2 = 1 ∧ ∀ i, i < n → fx i / 1024 ≠ n) ∨ (t2 = 2 ∧ ∃ i, i < n ∧ fx i / 1024 = n) := hu
    show wp (if t2 = 1 then some (0 : Int) else some 1) _
    rcases hu with ⟨u1, u2⟩ | ⟨u1, u2⟩
    · exact wp_if (fun _ => wp_some (Or.inr ⟨rfl, u2⟩)) (fun z => absurd u1 z)
    · exact wp_if (fun z => absurd z (by omega)) (fun _ => wp_some (Or.inl ⟨rfl, u2⟩))
end
section
/-! the reference's read, from any state -/
set_option maxHeartbeats 2000000 in
theorem q_read {B : Nat → Nat → Int} {t : Nat → Int} (hB : GB B) (hW : GW B) (hS : GS B) (ht : ∀ k, inI (t k)) {n fm : Nat} (hn : n ≤ 36) {fF fT fW fE tb re ne rest ahead pF pT pW pE : Nat → Int} (hF : FX B n fm fF fT fW fE) (hFi : ∀ i, inI (fF i) ∧ inI (fT i) ∧ inI (fW i) ∧ inI (fE i)) (hTb : ∀ i, inI (tb i)) (hre : ∀ i, inI (re i)) (hne : ∀ i, inI (ne i)) (hrs : ∀ i, inI (rest i)) (hah : ∀ i, inI (ahead i)) {sl gu ba nn mm isRd isM parts total found f0 k0 : Int} (esl : sl = B 13 0) (eg : gu = B 13 1) (eb : ba = B 13 2) (en : nn = n) (em : mm = fm) (hM : isM = 0 ∨ (isM = 1 ∧ TBL B t n (540 * n) tb)) (hRd : isRd = 0 ∨ (isRd = 1 ∧ isM = 1 ∧ RDR B t n rest ahead parts total pF pT pW pE)) :
    wp (m_X9_read (B 0) (B 3) (B 1) (B 4) (B 9) (B 6) (B 7) (B 8) (B 11) (B 12) (B 18 0) (B 18 1) sl gu ba (B 14) (B 15) nn mm t (B 17) fF fT fW fE isRd isM tb re ne rest ahead parts total pF pT pW pE found f0 k0) (fun u => u.1 = 1 ∧ u.2.1 = 1 ∧ TBL B t n (540 * n) u.2.2.1 ∧ (∀ i, inI (u.2.2.2.1 i)) ∧ (∀ i, inI (u.2.2.2.2.1 i)) ∧ RDR B t n u.2.2.2.2.2.1 u.2.2.2.2.2.2.1 u.2.2.2.2.2.2.2.1 u.2.2.2.2.2.2.2.2.1 u.2.2.2.2.2.2.2.2.2.1 u.2.2.2.2.2.2.2.2.2.2.1 u.2.2.2.2.2.2.2.2.2.2.2.1 u.2.2.2.2.2.2.2.2.2.2.2.2.1) := by
  unfold m_X9_read
  refine wp_gd (by omega) (wp_if (fun c1 => ?_) (fun c1 => ?_))
  · refine wp_gd (by omega) (wp_if (fun c2 => ?_) (fun c2 => ?_))
    · refine wp_bind (q_makeTable hB hW ht hn hTb hre hne en esl) ?_
      rintro ⟨tb2, re2, ne2⟩ ⟨g1, g2, g3⟩
      have g1 : TBL B t n (540 * n) tb2 := g1
      refine wp_mono (q_read24 hB hW hS hn (re := re2) (ne := ne2) g1 hF hFi hrs hah eg eb en em pF) ?_
      rintro u ⟨u1, u2, u3, u4, u5, u6⟩
      exact ⟨u1, u2, by rw [u3]; exact g1, by rw [u4]; exact g2, by rw [u5]; exact g3, u6⟩
    · have hT : TBL B t n (540 * n) tb := by
        rcases hM with z | ⟨_, z⟩
        · exact absurd z c2
        · exact z
      refine wp_mono (q_read24 hB hW hS hn (re := re) (ne := ne) hT hF hFi hrs hah eg eb en em pF) ?_
      rintro u ⟨u1, u2, u3, u4, u5, u6⟩
      exact ⟨u1, u2, by rw [u3]; exact hT, by rw [u4]; exact hre, by rw [u5]; exact hne, u6⟩
  · rcases hRd with z | ⟨z1, z2, z3⟩
    · exact absurd z c1
    · have hT : TBL B t n (540 * n) tb := by
        rcases hM with z | ⟨_, z⟩
        · omega
        · exact z
      exact wp_some ⟨z1, z2, hT, hre, hne, z3⟩
/-- the answers of cost and parts are one -/
theorem read_agree {B : Nat → Nat → Int} {t : Nat → Int} (hW : GW B) {n : Nat} {fv rests bg en et co vals rest ahead pF pT pW pE : Nat → Int} {total len parts tot2 : Int} (h1 : RDC B t n fv rests total len bg en et co vals) (h2 : RDR B t n rest ahead parts tot2 pF pT pW pE) : len = parts ∧ ((268435456 ≤ total ∧ 134217728 ≤ tot2) ∨ (total = tot2 ∧ total < 268435456 ∧ tot2 < 134217728)) ∧ ∀ i : Nat, (i : Int) < len → bg i = pF i ∧ en i = pT i ∧ et i = pent pW pE i := by
  obtain ⟨P, p1, p2, p3, p4⟩ := h1
  obtain ⟨Q, q1, q2, q3, q4, q5, q6, q7⟩ := h2
  rcases Nat.eq_zero_or_pos n with h0 | h0
  · obtain ⟨r1, r2⟩ := p3 h0
    have hQ : Q = 0 := by
      have := q5.1
      omega
    have hz := q3.1 9 (by omega)
    rw [h0] at hz
    have hz : rest 9 = 0 := hz
    refine ⟨by omega, Or.inr ⟨by omega, by omega, by omega⟩, fun i hi => by omega⟩
  · obtain ⟨f1, f2, f3, f4, f5, f6⟩ := p4 h0
    have hR2 : Rel2 n (Rc rests) (Rr rest) 268435456 134217728 := fun b k g1 g2 => rests_agree hW f3 q3 (n - b) b (by omega) k g2
    have ht : (total = 268435456 ∧ tot2 = 134217728) ∨ (total = tot2 ∧ total < 268435456 ∧ tot2 < 134217728) := by
      have l2 := q3.2.2 0 (Nat.zero_le _) h0 9 (by omega)
      have l3 : Lst (fun x => ∃ e b, viaG B t n 0 (Rc rests) 268435456 9 e b x) 134217728 tot2 := by
        rw [q4]
        refine l2.iff (fun x => ?_)
        constructor
        · rintro ⟨e, b, h⟩
          exact ⟨e, b, (viaG_congr (R' := Rr rest) (far' := 134217728) hW (fun b k _ g2 g3 => hR2 b k g2 g3)).mp h⟩
        · rintro ⟨e, b, h⟩
          exact ⟨e, b, (viaG_congr (R' := Rr rest) (far' := 134217728) hW (fun b k _ g2 g3 => hR2 b k g2 g3)).mpr h⟩
      rcases f4.two l3 with h | ⟨g1, g2, g3, _⟩
      · exact Or.inl h
      · exact Or.inr ⟨g1, g2, g3⟩
    obtain ⟨g1, g2⟩ := CHN_one hW hR2 ht f5 q5
    refine ⟨by omega, ?_, fun i hi => g2 i (by omega)⟩
    rcases ht with ⟨z1, z2⟩ | z
    · exact Or.inl ⟨by omega, by omega⟩
    · exact Or.inr z
end
section
/-! the choices of both sides are one list -/
theorem La_ex {B : Nat → Nat → Int} {t : Nat → Int} (hB : GB B) (hS : GS B) {n a : Nat} (hn : n ≤ 36) (ha : a ≤ n) {ah : Nat → Int} (hA : AHD B t n ah) : ∃ La : Nat → Int, ∀ j : Nat, j ≤ 8 → Lst (fwd B ah a j) 134217728 (La j) := by
  have h : ∀ j : Nat, ∃ v : Int, j ≤ 8 → Lst (fwd B ah a j) 134217728 v := by
    intro j
    by_cases hj : j ≤ 8
    · obtain ⟨v, _, hv⟩ := q_leastAhead hB hS hn ha hA.1 rfl (k := (j : Int)) (by omega)
      exact ⟨v, fun _ => hv.1⟩
    · exact ⟨0, fun z => absurd z hj⟩
  exact ⟨fun j => Classical.choose (h j), fun j hj => Classical.choose_spec (h j) hj⟩
theorem list_agree {B : Nat → Nat → Int} {t : Nat → Int} (hW : GW B) {n a b : Nat} (hab : a < b) (hbn : b ≤ n) {tails leads rests ah rest E C La : Nat → Int} {olen : Int} {s : st4} (h1 : LDC B t n tails leads) (h2 : AHD B t n ah) (h3 : BRc B t n 0 rests) (h4 : BR B t n 0 rest) (hLa : ∀ j : Nat, j ≤ 8 → Lst (fwd B ah a j) 134217728 (La j)) (h5 : OLC B t a b leads rests olen E C) (h6 : JC (VL B t a b La (fun j => rest (10 * b + j)) 134217728 134217728) 541 s) : ∃ len : Nat, olen = len ∧ s.2.2.2 = len ∧ len ≤ 12 ∧ ∀ i, i < len → E i = pent s.1 s.2.1 i ∧ C i = s.2.2.1 i ∧ (0 ≤ s.1 i ∧ s.1 i ≤ 60) ∧ (-1 ≤ s.2.1 i ∧ s.2.1 i < 8) ∧ (s.1 i = 60 → s.2.1 i = -1) := by
  obtain ⟨len, a1, a2, a3⟩ := h5
  obtain ⟨⟨ln2, b1, b2, b3, b4⟩, _⟩ := h6
  have hL : ∀ j : Nat, j ≤ 8 → (leads (9 * a + j) = 268435456 ∧ La j = 134217728) ∨ (leads (9 * a + j) = La j ∧ leads (9 * a + j) < 268435456 ∧ La j < 134217728) := fun j hj => leads_agree h1 h2 a (by omega) j hj _ (hLa j hj)
  have hR : ∀ j : Nat, j ≤ 8 → (rests (9 * b + j) = 268435456 ∧ rest (10 * b + j) = 134217728) ∨ (rests (9 * b + j) = rest (10 * b + j) ∧ rests (9 * b + j) < 268435456 ∧ rest (10 * b + j) < 134217728) := fun j hj => rests_agree hW h3 h4 (n - b) b (by omega) j hj
  have hV : ∀ i v, VL B t a b (fun j => leads (9 * a + j)) (fun j => rests (9 * b + j)) 268435456 268435456 i v ↔ VL B t a b La (fun j => rest (10 * b + j)) 134217728 134217728 i v := by
    intro i v
    constructor
    · rintro ⟨e1, c, e2, e3, e4, e5⟩
      have hk := kd_bd hW e1
      have hl := hL (kd (B 6) i).toNat (by omega)
      have hr := hR (kd (B 6) i).toNat (by omega)
      have e3 : leads (9 * a + (kd (B 6) i).toNat) < 268435456 := e3
      have e4 : rests (9 * b + (kd (B 6) i).toNat) < 268435456 := e4
      have e5 : v = leads (9 * a + (kd (B 6) i).toNat) + c + rests (9 * b + (kd (B 6) i).toNat) := e5
      refine ⟨e1, c, e2, by omega, ?_, ?_⟩
      · show rest (10 * b + (kd (B 6) i).toNat) < 134217728
        omega
      · show v = La (kd (B 6) i).toNat + c + rest (10 * b + (kd (B 6) i).toNat)
        omega
    · rintro ⟨e1, c, e2, e3, e4, e5⟩
      have hk := kd_bd hW e1
      have hl := hL (kd (B 6) i).toNat (by omega)
      have hr := hR (kd (B 6) i).toNat (by omega)
      have e4 : rest (10 * b + (kd (B 6) i).toNat) < 134217728 := e4
      have e5 : v = La (kd (B 6) i).toNat + c + rest (10 * b + (kd (B 6) i).toNat) := e5
      refine ⟨e1, c, e2, ?_, ?_, ?_⟩
      · show leads (9 * a + (kd (B 6) i).toNat) < 268435456
        omega
      · show rests (9 * b + (kd (B 6) i).toNat) < 268435456
        omega
      · show v = leads (9 * a + (kd (B 6) i).toNat) + c + rests (9 * b + (kd (B 6) i).toNat)
        omega
  obtain ⟨o1, o2⟩ := OFS_one hV VL_one a3 b3
  have o1 : len = ln2 := o1
  subst o1
  exact ⟨len, a1, b1, a2, fun i hi => ⟨(o2 i hi).1, (o2 i hi).2, b4 i hi⟩⟩
end
