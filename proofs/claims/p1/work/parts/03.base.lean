/-! numbers of the machine seen as Int; guards; loops with fuel -/
def zi (x : Int) : Int32 := Int32.ofInt x
def zl (x : Int) : Int64 := Int64.ofInt x
abbrev inI (x : Int) : Prop := -2147483648 ≤ x ∧ x < 2147483648
abbrev inL (x : Int) : Prop := -9223372036854775808 ≤ x ∧ x < 9223372036854775808
def gd {α : Type} (c : Prop) [Decidable c] (k : Option α) : Option α := if c then k else none
def vl {α β : Type} (e : α) (k : α → Option β) : Option β := k e
def FU : Nat := 5000
def zloop {α : Type} (body : α → Option (Nat × α)) : Nat → α → Option (Nat × α)
  | 0, _ => none
  | n + 1, a => (body a).bind fun u => if u.1 = 0 then zloop body n u.2 else some u
theorem gd_e {α : Type} {c : Prop} [Decidable c] {k : Option α} {r : α} (h : gd c k = some r) : c ∧ k = some r := by
  unfold gd at h
  by_cases hc : c
  · rw [if_pos hc] at h; exact ⟨hc, h⟩
  · rw [if_neg hc] at h; cases h
theorem vl_e {α β : Type} {e : α} {k : α → Option β} {r : β} (h : vl e k = some r) : ∃ x, x = e ∧ k x = some r := ⟨e, rfl, h⟩
theorem bd_e {α β : Type} {o : Option α} {k : α → Option β} {r : β} (h : o.bind k = some r) : ∃ u, o = some u ∧ k u = some r := Option.bind_eq_some_iff.mp h
theorem if_p {α : Type} {c : Prop} [Decidable c] {a b : Option α} {r : α} (h : (if c then a else b) = some r) (hc : c) : a = some r := by rw [if_pos hc] at h; exact h
theorem if_n {α : Type} {c : Prop} [Decidable c] {a b : Option α} {r : α} (h : (if c then a else b) = some r) (hc : ¬ c) : b = some r := by rw [if_neg hc] at h; exact h
theorem zloop_ind {α : Type} {body : α → Option (Nat × α)} {P : α → Prop} {K : Nat × α → Prop} (hb : ∀ a u, body a = some u → (u.1 = 0 → P u.2) → (u.1 ≠ 0 → K u) → P a) : ∀ (n : Nat) (a : α) (u : Nat × α), zloop body n a = some u → (u.1 ≠ 0 → K u) → P a := by
  intro n
  induction n with
  | zero => intro a u h; cases h
  | succ n ih =>
    intro a u h hk
    obtain ⟨w, hw, h⟩ := bd_e h
    by_cases h0 : w.1 = 0
    · rw [if_pos h0] at h
      exact hb a w hw (fun _ => ih w.2 u h hk) (fun z => absurd h0 z)
    · rw [if_neg h0] at h
      cases h
      exact hb a _ hw (fun z => absurd z h0) hk
theorem zloop_ne {α : Type} {body : α → Option (Nat × α)} : ∀ (n : Nat) (a : α) (u : Nat × α), zloop body n a = some u → u.1 ≠ 0 := by
  intro n
  induction n with
  | zero => intro a u h; cases h
  | succ n ih =>
    intro a u h
    obtain ⟨w, hw, h⟩ := bd_e h
    by_cases h0 : w.1 = 0
    · rw [if_pos h0] at h
      exact ih w.2 u h
    · rw [if_neg h0] at h
      cases h
      exact h0
/-! facts of zi and zl -/
theorem zi_toInt {x : Int} (h : inI x) : (zi x).toInt = x := Int32.toInt_ofInt_of_le (by omega) (by omega)
theorem zl_toInt {x : Int} (h : inL x) : (zl x).toInt = x := Int64.toInt_ofInt_of_le (by omega) (by omega)
theorem zi_of (x : Int32) : zi x.toInt = x := Int32.ofInt_toInt x
theorem zl_of (x : Int64) : zl x.toInt = x := Int64.ofInt_toInt x
theorem zi_inI (x : Int32) : inI x.toInt := ⟨Int32.le_toInt x, Int32.toInt_lt x⟩
theorem zl_inL (x : Int64) : inL x.toInt := ⟨Int64.le_toInt x, Int64.toInt_lt x⟩
theorem zi_add (x y : Int) : zi x + zi y = zi (x + y) := (Int32.ofInt_add x y).symm
theorem zi_sub (x y : Int) : zi x - zi y = zi (x - y) := (Int32.ofInt_sub x y).symm
theorem zi_mul (x y : Int) : zi x * zi y = zi (x * y) := (Int32.ofInt_mul x y).symm
theorem zl_add (x y : Int) : zl x + zl y = zl (x + y) := (Int64.ofInt_add x y).symm
theorem zl_sub (x y : Int) : zl x - zl y = zl (x - y) := (Int64.ofInt_sub x y).symm
theorem zi_lt {x y : Int} (hx : inI x) (hy : inI y) : zi x < zi y ↔ x < y := by rw [Int32.lt_iff_toInt_lt, zi_toInt hx, zi_toInt hy]
theorem zi_le {x y : Int} (hx : inI x) (hy : inI y) : zi x ≤ zi y ↔ x ≤ y := by rw [Int32.le_iff_toInt_le, zi_toInt hx, zi_toInt hy]
theorem zi_eq {x y : Int} (hx : inI x) (hy : inI y) : zi x = zi y ↔ x = y := by rw [← Int32.toInt_inj, zi_toInt hx, zi_toInt hy]
theorem zl_lt {x y : Int} (hx : inL x) (hy : inL y) : zl x < zl y ↔ x < y := by rw [Int64.lt_iff_toInt_lt, zl_toInt hx, zl_toInt hy]
theorem zl_eq {x y : Int} (hx : inL x) (hy : inL y) : zl x = zl y ↔ x = y := by rw [← Int64.toInt_inj, zl_toInt hx, zl_toInt hy]
theorem zi_z : (0 : Int32) = zi 0 := by decide
theorem zi_clamp {x : Int} (h : 0 ≤ x) (h2 : x < 2147483648) : (zi x).toNatClampNeg = x.toNat := by
  rw [Int32.toNatClampNeg, zi_toInt ⟨by omega, h2⟩]
theorem zi_in {x : Int} {n : Nat} (h : 0 ≤ x ∧ x < (n : Int)) (hn : n ≤ 2147483648) : vp_in (zi x) n := by
  have h2 : x < 2147483648 := by omega
  intro hq
  rcases hq with hq | hq
  · rw [zi_z, zi_lt ⟨by omega, h2⟩ (by decide)] at hq
    omega
  · rw [zi_clamp h.1 h2] at hq
    omega
theorem zi_nat (n : Nat) : nI n = zi (n : Int) := by unfold nI zi; exact (Int32.ofInt_eq_ofNat (n := n)).symm
theorem zi_tn (x : Int) : (zi x).toBitVec.toNat = (x % 4294967296).toNat := by
  show (BitVec.ofInt 32 x).toNat = _
  rw [BitVec.toNat_ofInt]
  rfl
theorem zl_tn (x : Int) : (zl x).toBitVec.toNat = (x % 18446744073709551616).toNat := by
  show (BitVec.ofInt 64 x).toNat = _
  rw [BitVec.toNat_ofInt]
  rfl
theorem zi_cong {x y : Int} (h : x % 4294967296 = y % 4294967296) : zi x = zi y := by
  apply Int32.toBitVec_inj.mp
  apply BitVec.eq_of_toNat_eq
  rw [zi_tn, zi_tn, h]
theorem zl_cong {x y : Int} (h : x % 18446744073709551616 = y % 18446744073709551616) : zl x = zl y := by
  apply Int64.toBitVec_inj.mp
  apply BitVec.eq_of_toNat_eq
  rw [zl_tn, zl_tn, h]
theorem zi_sh : ∀ k : Fin 32, (((zi (k.val : Int) &&& 31) : Int32).toBitVec.smod 32).toNat = k.val := by decide +kernel
theorem zl_sh : ∀ k : Fin 64, ((((zi (k.val : Int)).toInt64 &&& 63) : Int64).toBitVec.smod 64).toNat = k.val := by decide +kernel
theorem zi_shr {x y : Int} (hx : inI x) (hy : 0 ≤ y ∧ y < 32) : zi x >>> (zi y &&& 31) = zi (x / 2 ^ y.toNat) := by
  have h1 := zi_sh ⟨y.toNat, by omega⟩
  have h2 : ((y.toNat : Nat) : Int) = y := by omega
  simp only [h2] at h1
  rw [← zi_of (zi x >>> (zi y &&& 31))]
  congr 1
  show ((zi x >>> (zi y &&& 31)).toBitVec).toInt = _
  rw [Int32.toBitVec_shiftRight, BitVec.toInt_sshiftRight', h1]
  show (zi x).toInt >>> _ = _
  rw [zi_toInt hx, Int.shiftRight_eq_div_pow]
  norm_cast
theorem zi_shl {x y : Int} (hy : 0 ≤ y ∧ y < 32) : zi x <<< (zi y &&& 31) = zi (x * 2 ^ y.toNat) := by
  have h1 := zi_sh ⟨y.toNat, by omega⟩
  have h2 : ((y.toNat : Nat) : Int) = y := by omega
  simp only [h2] at h1
  apply Int32.toBitVec_inj.mp
  apply BitVec.eq_of_toNat_eq
  rw [Int32.toBitVec_shiftLeft, BitVec.shiftLeft_eq', h1, BitVec.toNat_shiftLeft, zi_tn, zi_tn, Nat.shiftLeft_eq]
  have h3 : (0 : Int) ≤ x % 4294967296 := Int.emod_nonneg _ (by decide)
  have h4 : (0 : Int) ≤ (x * 2 ^ y.toNat) % 4294967296 := Int.emod_nonneg _ (by decide)
  apply Int.ofNat.inj
  show (((x % 4294967296).toNat * 2 ^ y.toNat % 2 ^ 32 : Nat) : Int) = (((x * 2 ^ y.toNat) % 4294967296).toNat : Int)
  rw [Int.toNat_of_nonneg h4]
  rw [Int.natCast_emod, Int.natCast_mul, Int.toNat_of_nonneg h3, Int.natCast_pow]
  show x % 4294967296 * 2 ^ y.toNat % 4294967296 = _
  rw [Int.mul_emod, Int.emod_emod_of_dvd _ (Int.dvd_refl _), ← Int.mul_emod]
theorem zl_shr {x y : Int} (hx : inL x) (hy : 0 ≤ y ∧ y < 64) : zl x >>> ((zi y).toInt64 &&& 63) = zl (x / 2 ^ y.toNat) := by
  have h1 := zl_sh ⟨y.toNat, by omega⟩
  have h2 : ((y.toNat : Nat) : Int) = y := by omega
  simp only [h2] at h1
  rw [← zl_of (zl x >>> ((zi y).toInt64 &&& 63))]
  congr 1
  show ((zl x >>> ((zi y).toInt64 &&& 63)).toBitVec).toInt = _
  rw [Int64.toBitVec_shiftRight, BitVec.toInt_sshiftRight', h1]
  show (zl x).toInt >>> _ = _
  rw [zl_toInt hx, Int.shiftRight_eq_div_pow]
  norm_cast
theorem zl_shl {x y : Int} (hy : 0 ≤ y ∧ y < 64) : zl x <<< ((zi y).toInt64 &&& 63) = zl (x * 2 ^ y.toNat) := by
  have h1 := zl_sh ⟨y.toNat, by omega⟩
  have h2 : ((y.toNat : Nat) : Int) = y := by omega
  simp only [h2] at h1
  apply Int64.toBitVec_inj.mp
  apply BitVec.eq_of_toNat_eq
  rw [Int64.toBitVec_shiftLeft, BitVec.shiftLeft_eq', h1, BitVec.toNat_shiftLeft, zl_tn, zl_tn, Nat.shiftLeft_eq]
  have h3 : (0 : Int) ≤ x % 18446744073709551616 := Int.emod_nonneg _ (by decide)
  have h4 : (0 : Int) ≤ (x * 2 ^ y.toNat) % 18446744073709551616 := Int.emod_nonneg _ (by decide)
  apply Int.ofNat.inj
  show (((x % 18446744073709551616).toNat * 2 ^ y.toNat % 2 ^ 64 : Nat) : Int) = (((x * 2 ^ y.toNat) % 18446744073709551616).toNat : Int)
  rw [Int.toNat_of_nonneg h4]
  rw [Int.natCast_emod, Int.natCast_mul, Int.toNat_of_nonneg h3, Int.natCast_pow]
  show x % 18446744073709551616 * 2 ^ y.toNat % 18446744073709551616 = _
  rw [Int.mul_emod, Int.emod_emod_of_dvd _ (Int.dvd_refl _), ← Int.mul_emod]
def zushr (x y : Int) : Int := (if 0 ≤ x then x else x + 18446744073709551616) / 2 ^ y.toNat
theorem zl_ushS : ∀ k : Fin 64, ((((zi (k.val : Int)).toInt64.toUInt64 &&& Int64.toUInt64 63) : UInt64).toNat % 64) = k.val := by decide +kernel
theorem zl_ushr {x y : Int} (hx : inL x) (hy : 0 ≤ y ∧ y < 64) : ((zl x).toUInt64 >>> ((zi y).toInt64.toUInt64 &&& Int64.toUInt64 63)).toInt64 = zl (zushr x y) := by
  have h1 := zl_ushS ⟨y.toNat, by omega⟩
  have h2 : ((y.toNat : Nat) : Int) = y := by omega
  simp only [h2] at h1
  apply Int64.toBitVec_inj.mp
  apply BitVec.eq_of_toNat_eq
  show ((zl x).toUInt64 >>> ((zi y).toInt64.toUInt64 &&& Int64.toUInt64 63)).toNat = _
  rw [UInt64.toNat_shiftRight, h1, Nat.shiftRight_eq_div_pow, zl_tn]
  show (zl x).toBitVec.toNat / _ = _
  rw [zl_tn]
  unfold zushr
  have h3 : (x % 18446744073709551616) = if 0 ≤ x then x else x + 18446744073709551616 := by
    by_cases h : 0 ≤ x
    · rw [if_pos h]; omega
    · rw [if_neg h]; omega
  rw [h3]
  generalize hz : (if 0 ≤ x then x else x + 18446744073709551616) = z
  have hz0 : 0 ≤ z := by rw [← hz]; by_cases h : 0 ≤ x <;> simp [h] <;> omega
  have hz1 : z < 18446744073709551616 := by rw [← hz]; by_cases h : 0 ≤ x <;> simp [h] <;> omega
  have hp : (0 : Int) < 2 ^ y.toNat := Int.pow_pos (by decide)
  have h5 : z / 2 ^ y.toNat ≤ z := Int.ediv_le_self _ hz0
  have h6 : 0 ≤ z / 2 ^ y.toNat := Int.ediv_nonneg hz0 (by omega)
  rw [Int.emod_eq_of_lt h6 (by omega)]
  apply Int.ofNat.inj
  show ((z.toNat / 2 ^ y.toNat : Nat) : Int) = ((z / 2 ^ y.toNat).toNat : Int)
  rw [Int.toNat_of_nonneg h6]
  push_cast
  rw [Int.toNat_of_nonneg hz0]
theorem zi_and (x : Int) (k : Nat) (mk : Int) (hm : (zi mk).toBitVec.toNat = 2 ^ k - 1) (hk : k ≤ 31) : zi x &&& zi mk = zi (x % 2 ^ k) := by
  rw [pk_and (zi x) k hm, zi_nat, zi_tn]
  congr 1
  have h3 : (0 : Int) ≤ x % 4294967296 := Int.emod_nonneg _ (by decide)
  push_cast
  rw [Int.toNat_of_nonneg h3]
  have hd : (2 : Int) ^ k ∣ 4294967296 := by
    have : (4294967296 : Int) = 2 ^ k * 2 ^ (32 - k) := by rw [← Int.pow_add, show k + (32 - k) = 32 by omega]; rfl
    exact ⟨_, this⟩
  exact Int.emod_emod_of_dvd _ hd
def zland (x y : Int) : Int := (zl x &&& zl y).toInt
def zlor (x y : Int) : Int := (zl x ||| zl y).toInt
def ziand (x y : Int) : Int := (zi x &&& zi y).toInt
/-- a row with one place changed -/
def uz (f : Nat → Int) (k : Nat) (x : Int) : Nat → Int := fun j => if j = k then x else f j
theorem uz_i (f : Nat → Int) (k : Nat) (x : Int) : upd (fun j => zi (f j)) k (zi x) = fun j => zi (uz f k x j) := by
  funext j
  unfold upd uz
  by_cases h : j = k <;> simp [h]
theorem uz_l (f : Nat → Int) (k : Nat) (x : Int) : vp_updL (fun j => zl (f j)) k (zl x) = fun j => zl (uz f k x j) := by
  funext j
  unfold vp_updL uz
  by_cases h : j = k <;> simp [h]
/-- a stretch of a row laid over another -/
def zcp (f g : Nat → Int) (sp dp n : Nat) : Nat → Int := fun k => if dp ≤ k ∧ k < dp + n then f (sp + (k - dp)) else g k
theorem zcp_i (f g : Nat → Int) (sp dp n : Nat) : va_cpy (fun j => zi (f j)) (fun j => zi (g j)) sp dp n = fun j => zi (zcp f g sp dp n j) := by
  funext j
  unfold va_cpy zcp
  by_cases h : dp ≤ j ∧ j < dp + n <;> simp [h]
