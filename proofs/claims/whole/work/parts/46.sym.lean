/-! a run in the kernel: rows packed into numbers, what isn't known is 0, else one more than the number's code -/
def syg (W H p : Nat) : Nat := Nat.mod (Nat.shiftRight H (Nat.mul W p)) (Nat.pow 2 W)
def syp (W H p v : Nat) : Nat := Nat.xor H (Nat.shiftLeft (Nat.xor (syg W H p) v) (Nat.mul W p))
theorem syg_bit (W H p j : Nat) : (syg W H p).testBit j = (decide (j < W) && H.testBit (W * p + j)) := by
  show ((H >>> (W * p)) % 2 ^ W).testBit j = _
  rw [Nat.testBit_mod_two_pow, Nat.testBit_shiftRight]
theorem syg_p (W H p v q : Nat) (hv : v < 2 ^ W) : syg W (syp W H p v) q = if q = p then v else syg W H q := by
  have hb : ∀ i, (syp W H p v).testBit i = (H.testBit i ^^ (decide (i ≥ W * p) && ((decide (i - W * p < W) && H.testBit (W * p + (i - W * p))) ^^ v.testBit (i - W * p)))) := by
    intro i
    show (H ^^^ ((syg W H p ^^^ v) <<< (W * p))).testBit i = _
    rw [Nat.testBit_xor, Nat.testBit_shiftLeft, Nat.testBit_xor, syg_bit]
  have hvb : ∀ j, ¬ j < W → v.testBit j = false := fun j hj => Nat.testBit_lt_two_pow (Nat.lt_of_lt_of_le hv (Nat.pow_le_pow_right (by decide) (by omega)))
  apply Nat.eq_of_testBit_eq
  intro j
  rw [syg_bit, hb]
  by_cases hq : q = p
  · subst hq
    rw [if_pos rfl]
    by_cases hj : j < W
    · have e : W * q + j - W * q = j := by omega
      rw [e]
      simp [hj]
    · simp [hj, hvb j hj]
  · rw [if_neg hq, syg_bit]
    by_cases hj : j < W
    · by_cases h1 : W * q + j ≥ W * p
      · have h2 : ¬ (W * q + j - W * p < W) := by
          intro h3
          apply hq
          have h4 : W * q + j < W * (p + 1) := by rw [Nat.mul_add]; omega
          have h5 : q < p + 1 := by
            rcases Nat.lt_or_ge q (p + 1) with h | h
            · exact h
            · have := Nat.mul_le_mul_left W h; omega
          have h6 : p < q + 1 := by
            rcases Nat.lt_or_ge p (q + 1) with h | h
            · exact h
            · have := Nat.mul_le_mul_left W h; rw [Nat.mul_add] at this; omega
          omega
        simp [hj, h2, hvb _ h2]
      · simp [hj, h1]
    · simp [hj]
noncomputable def syf {α : Type} (c : Nat) (K : Nat → α) : α := Nat.rec (motive := fun _ => α) (K 0) (fun n _ => K (Nat.succ n)) c
theorem syf_eq {α : Type} (c : Nat) (K : Nat → α) : syf c K = K c := by cases c <;> rfl
noncomputable def syc {α : Type} (b : Bool) (x y : α) : α := Bool.rec (motive := fun _ => α) y x b
noncomputable def syr {α : Type} (c : Nat) (K : Nat → Option α) : Option α := Nat.rec (motive := fun _ => Option α) none (fun n _ => K n) c
noncomputable def syl {B : Type} (z : B) (F : B → B) (n : Nat) : B := Nat.rec (motive := fun _ => B) z (fun _ r => F r) n
noncomputable def syb {α β : Type} (s : Option β) (K : β → Option α) : Option α := Option.rec (motive := fun _ => Option α) none (fun b => K b) s
/-- what the packed run says holds of the plain one -/
def Sm {α β : Type} (Q : β → α → Prop) (s : Option β) (g : Option α) : Prop := ∀ b, s = some b → ∃ a, g = some a ∧ Q b a
def yI (x : Int32) (c : Nat) : Prop := x = Int32.ofNat c
def yJ (x : Int64) (c : Nat) : Prop := x = Int64.ofNat c
def yrr (ι : Nat → Nat) (c : Nat) : Option Nat := match c with
  | 0 => none
  | a + 1 => some (ι a)
def yR (ι : Nat → Nat) (r : Option Nat) (c : Nat) : Prop := r = yrr ι c
def yA (ι : Nat → Nat) (x : Nat) (a : Nat) : Prop := x = ι a
theorem yI_toNat {x : Int32} {c : Nat} (h : yI x c) : x.toBitVec = BitVec.ofNat 32 c := by subst h; rfl
theorem yJ_toNat {x : Int64} {c : Nat} (h : yJ x c) : x.toBitVec = BitVec.ofNat 64 c := by subst h; rfl
theorem yI_of {x : Int32} {c : Nat} (h : x.toBitVec = BitVec.ofNat 32 c) : yI x c := Int32.toBitVec_inj.mp h
theorem yJ_of {x : Int64} {c : Nat} (h : x.toBitVec = BitVec.ofNat 64 c) : yJ x c := Int64.toBitVec_inj.mp h
theorem yI_mod {x : Int32} {c : Nat} (h : yI x c) : yI x (Nat.mod c 4294967296) := yI_of (by rw [yI_toNat h]; apply BitVec.eq_of_toNat_eq; simp [show Nat.mod c 4294967296 = c % 4294967296 from rfl])
theorem yJ_mod {x : Int64} {c : Nat} (h : yJ x c) : yJ x (Nat.mod c 18446744073709551616) := yJ_of (by rw [yJ_toNat h]; apply BitVec.eq_of_toNat_eq; simp [show Nat.mod c 18446744073709551616 = c % 18446744073709551616 from rfl])
theorem yI_lit (n : Nat) : yI (OfNat.ofNat n) n := rfl
theorem yJ_lit (n : Nat) : yJ (OfNat.ofNat n) n := rfl
theorem yI_add {x y : Int32} {a b : Nat} (hx : yI x a) (hy : yI y b) : yI (x + y) (Nat.add a b) := by subst hx hy; exact (Int32.ofNat_add a b).symm
theorem yI_mul {x y : Int32} {a b : Nat} (hx : yI x a) (hy : yI y b) : yI (x * y) (Nat.mul a b) := by subst hx hy; exact (Int32.ofNat_mul a b).symm
theorem yJ_add {x y : Int64} {a b : Nat} (hx : yJ x a) (hy : yJ y b) : yJ (x + y) (Nat.add a b) := by subst hx hy; exact (Int64.ofNat_add a b).symm
theorem yJ_mul {x y : Int64} {a b : Nat} (hx : yJ x a) (hy : yJ y b) : yJ (x * y) (Nat.mul a b) := by subst hx hy; exact (Int64.ofNat_mul a b).symm
def syn32 (a : Nat) : Nat := Nat.sub 4294967296 (Nat.mod a 4294967296)
def syn64 (a : Nat) : Nat := Nat.sub 18446744073709551616 (Nat.mod a 18446744073709551616)
theorem yI_neg {x : Int32} {a : Nat} (hx : yI x a) : yI (-x) (syn32 a) := by
  apply yI_of
  rw [Int32.toBitVec_neg, yI_toNat hx]
  apply BitVec.eq_of_toNat_eq
  rw [BitVec.toNat_neg]
  simp only [BitVec.toNat_ofNat]
  rfl
theorem yJ_neg {x : Int64} {a : Nat} (hx : yJ x a) : yJ (-x) (syn64 a) := by
  apply yJ_of
  rw [Int64.toBitVec_neg, yJ_toNat hx]
  apply BitVec.eq_of_toNat_eq
  rw [BitVec.toNat_neg]
  simp only [BitVec.toNat_ofNat]
  rfl
theorem yI_sub {x y : Int32} {a b : Nat} (hx : yI x a) (hy : yI y b) : yI (x - y) (Nat.add a (syn32 b)) := by
  rw [Int32.sub_eq_add_neg]; exact yI_add hx (yI_neg hy)
theorem yJ_sub {x y : Int64} {a b : Nat} (hx : yJ x a) (hy : yJ y b) : yJ (x - y) (Nat.add a (syn64 b)) := by
  rw [Int64.sub_eq_add_neg]; exact yJ_add hx (yJ_neg hy)
theorem yI_and {x y : Int32} {a b : Nat} (hx : yI x a) (hy : yI y b) : yI (x &&& y) (Nat.land a b) := by
  apply yI_of
  rw [Int32.toBitVec_and, yI_toNat hx, yI_toNat hy]
  apply BitVec.eq_of_toNat_eq
  show _ = (BitVec.ofNat 32 (a &&& b)).toNat
  simp only [BitVec.toNat_and, BitVec.toNat_ofNat]
  exact (Nat.and_mod_two_pow).symm
theorem yI_or {x y : Int32} {a b : Nat} (hx : yI x a) (hy : yI y b) : yI (x ||| y) (Nat.lor a b) := by
  apply yI_of
  rw [Int32.toBitVec_or, yI_toNat hx, yI_toNat hy]
  apply BitVec.eq_of_toNat_eq
  show _ = (BitVec.ofNat 32 (a ||| b)).toNat
  simp only [BitVec.toNat_or, BitVec.toNat_ofNat]
  exact (Nat.or_mod_two_pow).symm
theorem yI_xor {x y : Int32} {a b : Nat} (hx : yI x a) (hy : yI y b) : yI (x ^^^ y) (Nat.xor a b) := by
  apply yI_of
  rw [Int32.toBitVec_xor, yI_toNat hx, yI_toNat hy]
  apply BitVec.eq_of_toNat_eq
  show _ = (BitVec.ofNat 32 (a ^^^ b)).toNat
  simp only [BitVec.toNat_xor, BitVec.toNat_ofNat]
  exact (Nat.xor_mod_two_pow).symm
theorem sy_and31 (v : BitVec 32) : (v &&& 31#32).toNat = v.toNat % 32 := by
  rw [BitVec.toNat_and]
  show v.toNat &&& 31 = _
  exact Nat.and_two_pow_sub_one_eq_mod v.toNat 5
theorem sy_smod (v : BitVec 32) : ((v &&& 31#32).smod 32#32) = v &&& 31#32 := by
  have h1 := sy_and31 v
  have hlt : v.toNat % 32 < 32 := Nat.mod_lt _ (by decide)
  have hm : (v &&& 31#32).msb = false := by
    rw [BitVec.msb_eq_false_iff_two_mul_lt, h1]
    omega
  have hm2 : (32#32).msb = false := by decide
  rw [BitVec.smod_eq, hm, hm2]
  simp only []
  apply BitVec.eq_of_toNat_eq
  show ((v &&& 31#32) % 32#32).toNat = _
  rw [BitVec.toNat_umod, h1]
  show v.toNat % 32 % 32 = _
  omega
theorem yI_shl {x y : Int32} {a b : Nat} (hx : yI x a) (hy : yI y b) : yI (x <<< (y &&& 31)) (Nat.shiftLeft a (Nat.mod b 32)) := by
  apply yI_of
  rw [Int32.toBitVec_shiftLeft, Int32.toBitVec_and, yI_toNat hx, yI_toNat hy]
  show BitVec.ofNat 32 a <<< ((BitVec.ofNat 32 b &&& 31#32).smod 32#32) = _
  rw [sy_smod]
  apply BitVec.eq_of_toNat_eq
  rw [BitVec.shiftLeft_eq', BitVec.toNat_shiftLeft, sy_and31]
  show _ = (BitVec.ofNat 32 (a <<< (b % 32))).toNat
  simp only [BitVec.toNat_ofNat]
  have e : b % 2 ^ 32 % 32 = b % 32 := by omega
  rw [e, Nat.shiftLeft_eq, Nat.shiftLeft_eq, Nat.mod_mul_mod]
noncomputable def sysr (a b : Nat) : Nat := syc (Nat.ble 2147483648 (Nat.mod a 4294967296)) (Nat.sub 4294967295 (Nat.shiftRight (Nat.sub 4294967295 (Nat.mod a 4294967296)) (Nat.mod b 32))) (Nat.shiftRight (Nat.mod a 4294967296) (Nat.mod b 32))
theorem yI_shr {x y : Int32} {a b : Nat} (hx : yI x a) (hy : yI y b) : yI (x >>> (y &&& 31)) (sysr a b) := by
  apply yI_of
  rw [Int32.toBitVec_shiftRight, Int32.toBitVec_and, yI_toNat hx, yI_toNat hy]
  show BitVec.sshiftRight' (BitVec.ofNat 32 a) ((BitVec.ofNat 32 b &&& 31#32).smod 32#32) = _
  rw [sy_smod, BitVec.sshiftRight_eq']
  apply BitVec.eq_of_toNat_eq
  rw [BitVec.toNat_sshiftRight, sy_and31]
  have hlt : a % 4294967296 < 4294967296 := Nat.mod_lt _ (by decide)
  have e : (BitVec.ofNat 32 b).toNat % 32 = b % 32 := by rw [BitVec.toNat_ofNat]; omega
  have e1 : (BitVec.ofNat 32 a).toNat = a % 4294967296 := BitVec.toNat_ofNat ..
  rw [e, e1]
  unfold sysr
  show _ = (BitVec.ofNat 32 (syc (Nat.ble 2147483648 (a % 4294967296)) (4294967295 - ((4294967295 - a % 4294967296) >>> (b % 32))) ((a % 4294967296) >>> (b % 32)))).toNat
  by_cases h : 2147483648 ≤ a % 4294967296
  · have hm : (BitVec.ofNat 32 a).msb = true := by
      rw [BitVec.msb_eq_true_iff_two_mul_ge, e1]; omega
    rw [hm, Nat.ble_eq_true_of_le h]
    have hs : (4294967295 - a % 4294967296) >>> (b % 32) ≤ 4294967295 - a % 4294967296 := by rw [Nat.shiftRight_eq_div_pow]; exact Nat.div_le_self _ _
    show _ = (BitVec.ofNat 32 (4294967295 - ((4294967295 - a % 4294967296) >>> (b % 32)))).toNat
    rw [BitVec.toNat_ofNat, Nat.mod_eq_of_lt (Nat.lt_of_le_of_lt (Nat.sub_le _ _) (by decide))]
    simp only [if_true]
    try rfl
  · have hm : (BitVec.ofNat 32 a).msb = false := by
      rw [BitVec.msb_eq_false_iff_two_mul_lt, e1]; omega
    have hb : Nat.ble 2147483648 (a % 4294967296) = false := by
      rw [← Bool.not_eq_true]; intro hh; exact h (Nat.le_of_ble_eq_true hh)
    rw [hm, hb]
    have hs : (a % 4294967296) >>> (b % 32) ≤ a % 4294967296 := by rw [Nat.shiftRight_eq_div_pow]; exact Nat.div_le_self _ _
    show _ = (BitVec.ofNat 32 ((a % 4294967296) >>> (b % 32))).toNat
    rw [BitVec.toNat_ofNat, Nat.mod_eq_of_lt (a := (a % 4294967296) >>> (b % 32)) (by omega)]
    simp only [Bool.false_eq_true, if_false]
noncomputable def sy2l (a : Nat) : Nat := syc (Nat.ble 2147483648 (Nat.mod a 4294967296)) (Nat.add (Nat.mod a 4294967296) 18446744069414584320) (Nat.mod a 4294967296)
theorem yJ_i2l {x : Int32} {a : Nat} (hx : yI x a) : yJ x.toInt64 (sy2l a) := by
  apply yJ_of
  rw [Int32.toBitVec_toInt64, yI_toNat hx]
  apply BitVec.eq_of_toNat_eq
  have hlt : a % 4294967296 < 4294967296 := Nat.mod_lt _ (by decide)
  have e1 : (BitVec.ofNat 32 a).toNat = a % 4294967296 := BitVec.toNat_ofNat ..
  rw [BitVec.toNat_signExtend, BitVec.toNat_setWidth, e1, BitVec.toNat_ofNat]
  unfold sy2l
  show _ = (syc (Nat.ble 2147483648 (a % 4294967296)) (a % 4294967296 + 18446744069414584320) (a % 4294967296)) % _
  by_cases h : 2147483648 ≤ a % 4294967296
  · have hm : (BitVec.ofNat 32 a).msb = true := by
      rw [BitVec.msb_eq_true_iff_two_mul_ge, e1]; omega
    rw [hm, Nat.ble_eq_true_of_le h]
    show _ = (a % 4294967296 + 18446744069414584320) % _
    simp only [if_true]
    omega
  · have hm : (BitVec.ofNat 32 a).msb = false := by
      rw [BitVec.msb_eq_false_iff_two_mul_lt, e1]; omega
    have hb : Nat.ble 2147483648 (a % 4294967296) = false := by
      rw [← Bool.not_eq_true]; intro hh; exact h (Nat.le_of_ble_eq_true hh)
    rw [hm, hb]
    show _ = (a % 4294967296) % _
    simp only [Bool.false_eq_true, if_false]
    omega
theorem yI_l2i {x : Int64} {a : Nat} (hx : yJ x a) : yI x.toInt32 a := by
  apply yI_of
  rw [Int64.toBitVec_toInt32, yJ_toNat hx]
  apply BitVec.eq_of_toNat_eq
  rw [BitVec.signExtend_eq_setWidth_of_le _ (by decide), BitVec.toNat_setWidth, BitVec.toNat_ofNat, BitVec.toNat_ofNat]
  omega
def syo32 (a : Nat) : Nat := Nat.mod (Nat.add a 2147483648) 4294967296
def syo64 (a : Nat) : Nat := Nat.mod (Nat.add a 9223372036854775808) 18446744073709551616
theorem sy_toInt32 {x : Int32} {a : Nat} (hx : yI x a) : x.toInt = (syo32 a : Int) - 2147483648 := by
  show x.toBitVec.toInt = _
  rw [yI_toNat hx, BitVec.toInt_eq_toNat_cond, BitVec.toNat_ofNat]
  show _ = (((a + 2147483648) % 4294967296 : Nat) : Int) - _
  split <;> omega
theorem sy_toInt64 {x : Int64} {a : Nat} (hx : yJ x a) : x.toInt = (syo64 a : Int) - 9223372036854775808 := by
  show x.toBitVec.toInt = _
  rw [yJ_toNat hx, BitVec.toInt_eq_toNat_cond, BitVec.toNat_ofNat]
  show _ = (((a + 9223372036854775808) % 18446744073709551616 : Nat) : Int) - _
  split <;> omega
theorem sy_lt32 {x y : Int32} {a b : Nat} (hx : yI x a) (hy : yI y b) : x < y ↔ Nat.ble (Nat.succ (syo32 a)) (syo32 b) = true := by
  rw [Int32.lt_iff_toInt_lt, sy_toInt32 hx, sy_toInt32 hy, Nat.ble_eq]
  omega
theorem sy_le32 {x y : Int32} {a b : Nat} (hx : yI x a) (hy : yI y b) : x ≤ y ↔ Nat.ble (syo32 a) (syo32 b) = true := by
  rw [Int32.le_iff_toInt_le, sy_toInt32 hx, sy_toInt32 hy, Nat.ble_eq]
  omega
theorem sy_eq32 {x y : Int32} {a b : Nat} (hx : yI x a) (hy : yI y b) : x = y ↔ Nat.beq (Nat.mod a 4294967296) (Nat.mod b 4294967296) = true := by
  rw [Nat.beq_eq, ← Int32.toBitVec_inj, yI_toNat hx, yI_toNat hy, ← BitVec.toNat_inj, BitVec.toNat_ofNat, BitVec.toNat_ofNat]
  exact Iff.rfl
theorem sy_lt64 {x y : Int64} {a b : Nat} (hx : yJ x a) (hy : yJ y b) : x < y ↔ Nat.ble (Nat.succ (syo64 a)) (syo64 b) = true := by
  rw [Int64.lt_iff_toInt_lt, sy_toInt64 hx, sy_toInt64 hy, Nat.ble_eq]
  omega
theorem sy_eq64 {x y : Int64} {a b : Nat} (hx : yJ x a) (hy : yJ y b) : x = y ↔ Nat.beq (Nat.mod a 18446744073709551616) (Nat.mod b 18446744073709551616) = true := by
  rw [Nat.beq_eq, ← Int64.toBitVec_inj, yJ_toNat hx, yJ_toNat hy, ← BitVec.toNat_inj, BitVec.toNat_ofNat, BitVec.toNat_ofNat]
  exact Iff.rfl
noncomputable def sycmp (a b : Nat) : Nat := syc (Nat.ble (Nat.succ (syo64 a)) (syo64 b)) 4294967295 (syc (Nat.beq (syo64 a) (syo64 b)) 0 1)
theorem yI_cmp {x y : Int64} {a b : Nat} (hx : yJ x a) (hy : yJ y b) : yI (lg_cmp x y) (sycmp a b) := by
  have h1 := sy_toInt64 hx
  have h2 := sy_toInt64 hy
  unfold sycmp
  by_cases h : x < y
  · rw [(sy_lt64 hx hy).mp h]
    have e : lg_cmp x y = -1 := by
      unfold lg_cmp
      rw [if_neg (by simp only [GT.gt, Int64.not_lt]; exact Int64.le_of_lt h), if_neg (Int64.ne_of_lt h)]
    rw [e]; rfl
  · have hb : Nat.ble (Nat.succ (syo64 a)) (syo64 b) = false := by
      rw [← Bool.not_eq_true]; intro hh; exact h ((sy_lt64 hx hy).mpr hh)
    rw [hb]
    rw [Int64.lt_iff_toInt_lt] at h
    by_cases he : x = y
    · have e2 : syo64 a = syo64 b := by
        subst he; omega
      have e : lg_cmp x y = 0 := by rw [lg_cmp_eq]; exact he
      rw [e, e2, show Nat.beq (syo64 b) (syo64 b) = true from Nat.beq_refl _]; rfl
    · have hb2 : Nat.beq (syo64 a) (syo64 b) = false := by
        rw [← Bool.not_eq_true]; intro hh
        apply he
        rw [← Int64.toInt_inj, h1, h2, Nat.eq_of_beq_eq_true hh]
      have hg : y < x := by
        rw [Int64.lt_iff_toInt_lt]
        have : x.toInt ≠ y.toInt := fun hh => he (Int64.toInt_inj.mp hh)
        omega
      have e : lg_cmp x y = 1 := by
        unfold lg_cmp; rw [if_pos hg]
      rw [e, hb2]; rfl
/-- division of longs, of ints: by sizes -/
noncomputable def syd (M a b : Nat) : Nat := syc (Nat.ble (Nat.mul 2 a) (Nat.sub M 1)) (syc (Nat.ble (Nat.mul 2 b) (Nat.sub M 1)) (Nat.div a b) (Nat.sub M (Nat.div a (Nat.sub M b)))) (syc (Nat.ble (Nat.mul 2 b) (Nat.sub M 1)) (Nat.sub M (Nat.div (Nat.sub M a) b)) (Nat.div (Nat.sub M a) (Nat.sub M b)))
theorem sy_ble_f {a b : Nat} (h : ¬ a ≤ b) : Nat.ble a b = false := by
  rw [← Bool.not_eq_true]; intro hh; exact h (Nat.le_of_ble_eq_true hh)
theorem syd_bv {w : Nat} (hw : 0 < w) (x y : BitVec w) : BitVec.sdiv x y = BitVec.ofNat w (syd (2 ^ w) x.toNat y.toNat) := by
  have hx := x.isLt
  have hy := y.isLt
  have hp : 0 < 2 ^ w := Nat.two_pow_pos w
  apply BitVec.eq_of_toNat_eq
  rw [BitVec.sdiv_eq]
  have e0 : syd (2 ^ w) x.toNat y.toNat = syc (Nat.ble (2 * x.toNat) (2 ^ w - 1)) (syc (Nat.ble (2 * y.toNat) (2 ^ w - 1)) (x.toNat / y.toNat) (2 ^ w - x.toNat / (2 ^ w - y.toNat))) (syc (Nat.ble (2 * y.toNat) (2 ^ w - 1)) (2 ^ w - (2 ^ w - x.toNat) / y.toNat) ((2 ^ w - x.toNat) / (2 ^ w - y.toNat))) := rfl
  rw [e0]
  have key : ∀ z : BitVec w, (z.msb = false ↔ 2 * z.toNat ≤ 2 ^ w - 1) := fun z => by
    rw [BitVec.msb_eq_false_iff_two_mul_lt]; omega
  cases hmx : x.msb <;> cases hmy : y.msb
  · rw [Nat.ble_eq_true_of_le ((key x).mp hmx), Nat.ble_eq_true_of_le ((key y).mp hmy)]
    show (x.udiv y).toNat = (BitVec.ofNat w (x.toNat / y.toNat)).toNat
    rw [BitVec.toNat_ofNat]
    show (x / y).toNat = _
    rw [BitVec.toNat_udiv, Nat.mod_eq_of_lt (Nat.lt_of_le_of_lt (Nat.div_le_self _ _) hx)]
  · have hb : ¬ (2 * y.toNat ≤ 2 ^ w - 1) := fun h => by rw [(key y).mpr h] at hmy; cases hmy
    rw [Nat.ble_eq_true_of_le ((key x).mp hmx), sy_ble_f hb]
    show (-(x.udiv (-y))).toNat = (BitVec.ofNat w (2 ^ w - x.toNat / (2 ^ w - y.toNat))).toNat
    rw [BitVec.toNat_neg, BitVec.toNat_ofNat]
    show (2 ^ w - (x / -y).toNat) % 2 ^ w = _
    have e2 : (2 ^ w - y.toNat) % 2 ^ w = 2 ^ w - y.toNat := Nat.mod_eq_of_lt (by omega)
    rw [BitVec.toNat_udiv, BitVec.toNat_neg, e2]
  · have hb : ¬ (2 * x.toNat ≤ 2 ^ w - 1) := fun h => by rw [(key x).mpr h] at hmx; cases hmx
    rw [Nat.ble_eq_true_of_le ((key y).mp hmy), sy_ble_f hb]
    show (-((-x).udiv y)).toNat = (BitVec.ofNat w (2 ^ w - (2 ^ w - x.toNat) / y.toNat)).toNat
    rw [BitVec.toNat_neg, BitVec.toNat_ofNat]
    show (2 ^ w - (-x / y).toNat) % 2 ^ w = _
    have e2 : (2 ^ w - x.toNat) % 2 ^ w = 2 ^ w - x.toNat := Nat.mod_eq_of_lt (by omega)
    rw [BitVec.toNat_udiv, BitVec.toNat_neg, e2]
  · have hb : ¬ (2 * x.toNat ≤ 2 ^ w - 1) := fun h => by rw [(key x).mpr h] at hmx; cases hmx
    have hb2 : ¬ (2 * y.toNat ≤ 2 ^ w - 1) := fun h => by rw [(key y).mpr h] at hmy; cases hmy
    rw [sy_ble_f hb, sy_ble_f hb2]
    show ((-x).udiv (-y)).toNat = (BitVec.ofNat w ((2 ^ w - x.toNat) / (2 ^ w - y.toNat))).toNat
    rw [BitVec.toNat_ofNat]
    show (-x / -y).toNat = _
    have e1 : (2 ^ w - x.toNat) % 2 ^ w = 2 ^ w - x.toNat := Nat.mod_eq_of_lt (by omega)
    have e2 : (2 ^ w - y.toNat) % 2 ^ w = 2 ^ w - y.toNat := Nat.mod_eq_of_lt (by omega)
    rw [BitVec.toNat_udiv, BitVec.toNat_neg, BitVec.toNat_neg, e1, e2, Nat.mod_eq_of_lt]
    exact Nat.lt_of_le_of_lt (Nat.div_le_self _ _) (by omega)
theorem yJ_div {x y : Int64} {a b : Nat} (hx : yJ x a) (hy : yJ y b) : yJ (x / y) (syd 18446744073709551616 (Nat.mod a 18446744073709551616) (Nat.mod b 18446744073709551616)) := by
  apply yJ_of
  rw [Int64.toBitVec_div, yJ_toNat hx, yJ_toNat hy, syd_bv (by decide), BitVec.toNat_ofNat, BitVec.toNat_ofNat]
  rfl
theorem yI_div {x y : Int32} {a b : Nat} (hx : yI x a) (hy : yI y b) : yI (x / y) (syd 4294967296 (Nat.mod a 4294967296) (Nat.mod b 4294967296)) := by
  apply yI_of
  rw [Int32.toBitVec_div, yI_toNat hx, yI_toNat hy, syd_bv (by decide), BitVec.toNat_ofNat, BitVec.toNat_ofNat]
  rfl
abbrev Sy : Type := Nat × Nat × Nat
abbrev Se : Type := Nat × Nat × Nat
def syR (ι : Nat → Nat) (e : Se) (h0 : Zh) (t : Sy) (h : Zh) : Prop :=
  (∀ a v, syg 20 e.1 a = v + 1 → zL h (ι a) = v) ∧
  (∀ a k v, k < 256 → syg 33 t.1 (a * 256 + k) = v + 1 → yI (zI h (ι a) k) v) ∧
  (∀ a k v, k < 128 → syg 65 t.2.1 (a * 128 + k) = v + 1 → yJ (zJ h (ι a) k) v) ∧
  (∀ a k v, k < 64 → syg 17 t.2.2 (a * 64 + k) = v + 1 → yR ι (zR h (ι a) k) v) ∧
  (∀ b k, zI h b k = zI h0 b k ∨ ∃ a, ι a = b ∧ k < 256 ∧ syg 1 e.2.1 (a * 256 + k) = 1) ∧
  (∀ b k, zJ h b k = zJ h0 b k ∨ ∃ a, ι a = b ∧ k < 256 ∧ syg 1 e.2.1 (a * 256 + k) = 1) ∧
  (∀ b k, zR h b k = zR h0 b k ∨ ∃ a, ι a = b ∧ k < 256 ∧ syg 1 e.2.2 (a * 256 + k) = 1) ∧
  h.1 = h0.1 ∧ h.2.1 = h0.2.1 ∧ h.2.2.1 = h0.2.2.1
noncomputable def srI {α : Type} (t : Sy) (a k : Nat) (K : Nat → Option α) : Option α := syc (Nat.ble 256 k) none (syr (syg 33 t.1 (Nat.add (Nat.mul a 256) k)) K)
noncomputable def srJ {α : Type} (t : Sy) (a k : Nat) (K : Nat → Option α) : Option α := syc (Nat.ble 128 k) none (syr (syg 65 t.2.1 (Nat.add (Nat.mul a 128) k)) K)
noncomputable def srR {α : Type} (t : Sy) (a k : Nat) (K : Nat → Option α) : Option α := syc (Nat.ble 64 k) none (syr (syg 17 t.2.2 (Nat.add (Nat.mul a 64) k)) K)
noncomputable def syt {α : Type} (t : Sy) (K : Nat → Nat → Nat → Option α) : Option α := Prod.rec (motive := fun _ => Option α) (fun i jr => Prod.rec (motive := fun _ => Option α) (fun j r => K i j r) jr) t
theorem syt_eq {α : Type} (i j r : Nat) (K : Nat → Nat → Nat → Option α) : syt (i, j, r) K = K i j r := rfl
noncomputable def swI {α : Type} (e : Se) (t : Sy) (a k v : Nat) (K : Sy → Option α) : Option α := syc (Nat.ble 256 k) none (syc (Nat.beq (syg 1 e.2.1 (Nat.add (Nat.mul a 256) k)) 1) (syt t (fun i j r => syf (syp 33 i (Nat.add (Nat.mul a 256) k) (Nat.succ (Nat.mod v 4294967296))) (fun H => K (H, j, r)))) none)
noncomputable def swJ {α : Type} (e : Se) (t : Sy) (a k v : Nat) (K : Sy → Option α) : Option α := syc (Nat.ble 128 k) none (syc (Nat.beq (syg 1 e.2.1 (Nat.add (Nat.mul a 256) k)) 1) (syt t (fun i j r => syf (syp 65 j (Nat.add (Nat.mul a 128) k) (Nat.succ (Nat.mod v 18446744073709551616))) (fun H => K (i, H, r)))) none)
noncomputable def swR {α : Type} (e : Se) (t : Sy) (a k v : Nat) (K : Sy → Option α) : Option α := syc (Nat.ble 64 k) none (syc (Nat.beq (syg 1 e.2.2 (Nat.add (Nat.mul a 256) k)) 1) (syc (Nat.ble 131071 v) none (syt t (fun i j r => syf (syp 17 r (Nat.add (Nat.mul a 64) k) (Nat.succ v)) (fun H => K (i, j, H))))) none)
noncomputable def syi {α : Type} (e : Se) (a c : Nat) (K : Nat → Option α) : Option α := syc (Nat.ble (Nat.succ (Nat.succ (Nat.mod c 4294967296))) (syg 20 e.1 a)) (syf (Nat.mod c 4294967296) K) none
theorem syc_s {α : Type} {b : Bool} {x y : Option α} {r : α} (h : syc b x y = some r) : (b = true ∧ x = some r) ∨ (b = false ∧ y = some r) := by
  cases b
  · exact Or.inr ⟨rfl, h⟩
  · exact Or.inl ⟨rfl, h⟩
theorem syr_s {α : Type} {c : Nat} {K : Nat → Option α} {r : α} (h : syr c K = some r) : ∃ v, c = v + 1 ∧ K v = some r := by
  cases c with
  | zero => cases h
  | succ v => exact ⟨v, rfl, h⟩
theorem syg_lt (W H p : Nat) : syg W H p < 2 ^ W := Nat.mod_lt _ (Nat.two_pow_pos W)
theorem sy_nle {a b : Nat} (h : Nat.ble a b = false) : b < a := by
  rcases Nat.lt_or_ge b a with h1 | h1
  · exact h1
  · rw [Nat.ble_eq_true_of_le h1] at h; cases h
theorem sy_zx {y : Int32} {c : Nat} (hy : yI y c) (h : c % 4294967296 < 2147483648) : zx y = c % 4294967296 ∧ ¬ y < 0 := by
  have h1 := sy_toInt32 hy
  have h2 : syo32 c = c % 4294967296 + 2147483648 := by
    show (c + 2147483648) % 4294967296 = _
    omega
  rw [h2] at h1
  have h3 : y.toInt = ((c % 4294967296 : Nat) : Int) := by omega
  refine ⟨?_, ?_⟩
  · show y.toInt.toNat = _
    rw [h3]; rfl
  · rw [Int32.lt_iff_toInt_lt, h3]
    show ¬ _ < (0 : Int32).toInt
    rw [show (0 : Int32).toInt = 0 from rfl]
    omega
section SM
variable {α β : Type} {Q : β → α → Prop} {ι : Nat → Nat} {e : Se} {h0 h : Zh} {t : Sy} {g : Option α}
theorem sm_none : Sm Q none g := fun b hb => nomatch hb
theorem sm_some {b : β} {a : α} (h : Q b a) : Sm Q (some b) (some a) := fun b' hb => by cases hb; exact ⟨a, rfl, h⟩
theorem sm_rI {a k p x : Nat} {K' : Nat → Option β} (ht : syR ι e h0 t h) (ha : yA ι x a) (hp : k = p) (hk : ∀ c, yI (zI h x k) c → Sm Q (K' c) g) : Sm Q (srI t a p K') g := by
  intro b hb
  subst ha hp
  rcases syc_s hb with ⟨_, h1⟩ | ⟨h1, h2⟩
  · cases h1
  · obtain ⟨v, hv, h3⟩ := syr_s h2
    exact hk v (ht.2.1 a k v (sy_nle h1) hv) b h3
theorem sm_rJ {a k p x : Nat} {K' : Nat → Option β} (ht : syR ι e h0 t h) (ha : yA ι x a) (hp : k = p) (hk : ∀ c, yJ (zJ h x k) c → Sm Q (K' c) g) : Sm Q (srJ t a p K') g := by
  intro b hb
  subst ha hp
  rcases syc_s hb with ⟨_, h1⟩ | ⟨h1, h2⟩
  · cases h1
  · obtain ⟨v, hv, h3⟩ := syr_s h2
    exact hk v (ht.2.2.1 a k v (sy_nle h1) hv) b h3
theorem sm_rR {a k p x : Nat} {K' : Nat → Option β} {f : Option Nat → Option α} (ht : syR ι e h0 t h) (ha : yA ι x a) (hp : k = p) (hk : ∀ r c, yR ι r c → Sm Q (K' c) (f r)) : Sm Q (srR t a p K') (zlt (zR h x k) f) := by
  intro b hb
  subst ha hp
  rcases syc_s hb with ⟨_, h1⟩ | ⟨h1, h2⟩
  · cases h1
  · obtain ⟨v, hv, h3⟩ := syr_s h2
    exact hk _ v (ht.2.2.2.1 a k v (sy_nle h1) hv) b h3
theorem sm_in {a c x : Nat} {y : Int32} {K' : Nat → Option β} (ht : syR ι e h0 t h) (ha : yA ι x a) (hy : yI y c) (hk : ∀ p, zx y = p → Sm Q (K' p) g) : Sm Q (syi e a c K') (zg (zin y (zL h x)) g) := by
  intro b hb
  subst ha
  rcases syc_s hb with ⟨h1, h2⟩ | ⟨_, h2⟩
  · rw [syf_eq] at h2
    have h3 := Nat.le_of_ble_eq_true h1
    have h4 := syg_lt 20 e.1 a
    have h5 : Nat.succ (Nat.succ (c % 4294967296)) ≤ syg 20 e.1 a := h3
    have h6 : zL h (ι a) = syg 20 e.1 a - 1 := ht.1 a _ (by omega)
    have hz := sy_zx hy (by omega)
    obtain ⟨r, hr, hq⟩ := hk _ hz.1 b h2
    refine ⟨r, ?_, hq⟩
    have hin : zin y (zL h (ι a)) = true := by
      simp only [zin, Bool.and_eq_true, decide_eq_true_eq]
      refine ⟨hz.2, ?_⟩
      have : y.toNatClampNeg = c % 4294967296 := hz.1
      omega
    rw [hin]
    exact hr
  · cases h2
theorem syR_wI (hι : ∀ a b, ι a = ι b → a = b) (ht : syR ι e h0 t h) {a k c : Nat} {v : Int32} (hk : k < 256) (hw : syg 1 e.2.1 (a * 256 + k) = 1) (hv : yI v c) : syR ι e h0 (syp 33 t.1 (a * 256 + k) (Nat.succ (Nat.mod c 4294967296)), t.2) (zsI h (ι a) k v) := by
  obtain ⟨q1, q2, q3, q4, q5, q6, q7, q8⟩ := ht
  refine ⟨q1, ?_, q3, q4, ?_, q6, q7, q8⟩
  · intro a' k' v' hk' hg
    have hm : Nat.mod c 4294967296 < 4294967296 := Nat.mod_lt _ (by decide)
    change syg 33 (syp 33 t.1 (a * 256 + k) (Nat.succ (Nat.mod c 4294967296))) (a' * 256 + k') = v' + 1 at hg
    rw [syg_p _ _ _ _ _ (show Nat.succ (Nat.mod c 4294967296) < 2 ^ 33 by omega)] at hg
    show yI (if ι a' = ι a ∧ k' = k then v else zI h (ι a') k') v'
    by_cases hq : a' * 256 + k' = a * 256 + k
    · rw [if_pos hq] at hg
      have h1 : a' = a ∧ k' = k := by omega
      rw [if_pos ⟨congrArg ι h1.1, h1.2⟩]
      have : v' = Nat.mod c 4294967296 := by
        have h2 : Nat.succ (Nat.mod c 4294967296) = v' + 1 := hg
        omega
      rw [this]
      exact yI_mod hv
    · rw [if_neg hq] at hg
      rw [if_neg (fun h1 => hq (by rw [hι _ _ h1.1, h1.2]))]
      exact q2 a' k' v' hk' hg
  · intro b' k'
    show (if b' = ι a ∧ k' = k then v else zI h b' k') = _ ∨ _
    by_cases h1 : b' = ι a ∧ k' = k
    · exact Or.inr ⟨a, h1.1.symm, by omega, by rw [h1.2]; exact hw⟩
    · rw [if_neg h1]
      exact q5 b' k'
theorem syR_wJ (hι : ∀ a b, ι a = ι b → a = b) (ht : syR ι e h0 t h) {a k c : Nat} {v : Int64} (hk : k < 128) (hw : syg 1 e.2.1 (a * 256 + k) = 1) (hv : yJ v c) : syR ι e h0 (t.1, syp 65 t.2.1 (a * 128 + k) (Nat.succ (Nat.mod c 18446744073709551616)), t.2.2) (zsJ h (ι a) k v) := by
  obtain ⟨q1, q2, q3, q4, q5, q6, q7, q8⟩ := ht
  refine ⟨q1, q2, ?_, q4, q5, ?_, q7, q8⟩
  · intro a' k' v' hk' hg
    have hm : Nat.mod c 18446744073709551616 < 18446744073709551616 := Nat.mod_lt _ (by decide)
    change syg 65 (syp 65 t.2.1 (a * 128 + k) (Nat.succ (Nat.mod c 18446744073709551616))) (a' * 128 + k') = v' + 1 at hg
    rw [syg_p _ _ _ _ _ (show Nat.succ (Nat.mod c 18446744073709551616) < 2 ^ 65 by omega)] at hg
    show yJ (if ι a' = ι a ∧ k' = k then v else zJ h (ι a') k') v'
    by_cases hq : a' * 128 + k' = a * 128 + k
    · rw [if_pos hq] at hg
      have h1 : a' = a ∧ k' = k := by omega
      rw [if_pos ⟨congrArg ι h1.1, h1.2⟩]
      have : v' = Nat.mod c 18446744073709551616 := by
        have h2 : Nat.succ (Nat.mod c 18446744073709551616) = v' + 1 := hg
        omega
      rw [this]
      exact yJ_mod hv
    · rw [if_neg hq] at hg
      rw [if_neg (fun h1 => hq (by rw [hι _ _ h1.1, h1.2]))]
      exact q3 a' k' v' hk' hg
  · intro b' k'
    show (if b' = ι a ∧ k' = k then v else zJ h b' k') = _ ∨ _
    by_cases h1 : b' = ι a ∧ k' = k
    · exact Or.inr ⟨a, h1.1.symm, by omega, by rw [h1.2]; exact hw⟩
    · rw [if_neg h1]
      exact q6 b' k'
theorem syR_wR (hι : ∀ a b, ι a = ι b → a = b) (ht : syR ι e h0 t h) {a k c : Nat} {v : Option Nat} (hk : k < 64) (hw : syg 1 e.2.2 (a * 256 + k) = 1) (hc : c < 131071) (hv : yR ι v c) : syR ι e h0 (t.1, t.2.1, syp 17 t.2.2 (a * 64 + k) (Nat.succ c)) (zsR h (ι a) k v) := by
  obtain ⟨q1, q2, q3, q4, q5, q6, q7, q8⟩ := ht
  refine ⟨q1, q2, q3, ?_, q5, q6, ?_, q8⟩
  · intro a' k' v' hk' hg
    change syg 17 (syp 17 t.2.2 (a * 64 + k) (Nat.succ c)) (a' * 64 + k') = v' + 1 at hg
    rw [syg_p _ _ _ _ _ (show Nat.succ c < 2 ^ 17 by omega)] at hg
    show yR ι (if ι a' = ι a ∧ k' = k then v else zR h (ι a') k') v'
    by_cases hq : a' * 64 + k' = a * 64 + k
    · rw [if_pos hq] at hg
      have h1 : a' = a ∧ k' = k := by omega
      rw [if_pos ⟨congrArg ι h1.1, h1.2⟩]
      have : v' = c := by
        have h2 : Nat.succ c = v' + 1 := hg
        omega
      rw [this]
      exact hv
    · rw [if_neg hq] at hg
      rw [if_neg (fun h1 => hq (by rw [hι _ _ h1.1, h1.2]))]
      exact q4 a' k' v' hk' hg
  · intro b' k'
    show (if b' = ι a ∧ k' = k then v else zR h b' k') = _ ∨ _
    by_cases h1 : b' = ι a ∧ k' = k
    · exact Or.inr ⟨a, h1.1.symm, by omega, by rw [h1.2]; exact hw⟩
    · rw [if_neg h1]
      exact q7 b' k'
theorem sm_wI {a k p x c : Nat} {v : Int32} {K' : Sy → Option β} {f : Zh → Option α} (hι : ∀ a b, ι a = ι b → a = b) (ht : syR ι e h0 t h) (ha : yA ι x a) (hp : k = p) (hv : yI v c) (hk : ∀ h1 t1, syR ι e h0 t1 h1 → Sm Q (K' t1) (f h1)) : Sm Q (swI e t a p c K') (zlt (zsI h x k v) f) := by
  intro b hb
  subst ha hp
  rcases syc_s hb with ⟨_, h1⟩ | ⟨h1, h2⟩
  · cases h1
  rcases syc_s h2 with ⟨h3, h4⟩ | ⟨_, h3⟩
  · obtain ⟨t1, t2, t3⟩ := t
    rw [syt_eq, syf_eq] at h4
    exact hk _ _ (syR_wI hι ht (sy_nle h1) (Nat.eq_of_beq_eq_true h3) hv) b h4
  · cases h3
theorem sm_wJ {a k p x c : Nat} {v : Int64} {K' : Sy → Option β} {f : Zh → Option α} (hι : ∀ a b, ι a = ι b → a = b) (ht : syR ι e h0 t h) (ha : yA ι x a) (hp : k = p) (hv : yJ v c) (hk : ∀ h1 t1, syR ι e h0 t1 h1 → Sm Q (K' t1) (f h1)) : Sm Q (swJ e t a p c K') (zlt (zsJ h x k v) f) := by
  intro b hb
  subst ha hp
  rcases syc_s hb with ⟨_, h1⟩ | ⟨h1, h2⟩
  · cases h1
  rcases syc_s h2 with ⟨h3, h4⟩ | ⟨_, h3⟩
  · obtain ⟨t1, t2, t3⟩ := t
    rw [syt_eq, syf_eq] at h4
    exact hk _ _ (syR_wJ hι ht (sy_nle h1) (Nat.eq_of_beq_eq_true h3) hv) b h4
  · cases h3
theorem sm_wR {a k p x c : Nat} {v : Option Nat} {K' : Sy → Option β} {f : Zh → Option α} (hι : ∀ a b, ι a = ι b → a = b) (ht : syR ι e h0 t h) (ha : yA ι x a) (hp : k = p) (hv : yR ι v c) (hk : ∀ h1 t1, syR ι e h0 t1 h1 → Sm Q (K' t1) (f h1)) : Sm Q (swR e t a p c K') (zlt (zsR h x k v) f) := by
  intro b hb
  subst ha hp
  rcases syc_s hb with ⟨_, h1⟩ | ⟨h1, h2⟩
  · cases h1
  rcases syc_s h2 with ⟨h3, h4⟩ | ⟨_, h3⟩
  · rcases syc_s h4 with ⟨_, h5⟩ | ⟨h5, h6⟩
    · cases h5
    obtain ⟨t1, t2, t3⟩ := t
    rw [syt_eq, syf_eq] at h6
    exact hk _ _ (syR_wR hι ht (sy_nle h1) (Nat.eq_of_beq_eq_true h3) (sy_nle h5) hv) b h6
  · cases h3
theorem sm_lti {x : Int32} {c : Nat} {K' : Nat → Option β} {f : Int32 → Option α} (hx : yI x c) (hk : ∀ y c', yI y c' → Sm Q (K' c') (f y)) : Sm Q (syf c K') (zlt x f) := by
  rw [syf_eq]; exact hk x c hx
theorem sm_ltj {x : Int64} {c : Nat} {K' : Nat → Option β} {f : Int64 → Option α} (hx : yJ x c) (hk : ∀ y c', yJ y c' → Sm Q (K' c') (f y)) : Sm Q (syf c K') (zlt x f) := by
  rw [syf_eq]; exact hk x c hx
theorem sm_dr {r : Option Nat} {c : Nat} {K' : Nat → Option β} {f : Nat → Option α} (hr : yR ι r c) (hk : ∀ x a, yA ι x a → Sm Q (K' a) (f x)) : Sm Q (syr c K') (Option.bind r f) := by
  intro b hb
  obtain ⟨v, hv, h3⟩ := syr_s hb
  subst hv hr
  exact hk _ v rfl b h3
noncomputable def sycs {α : Type} (c : Nat) (x : Option α) (K : Nat → Option α) : Option α := Nat.rec (motive := fun _ => Option α) x (fun n _ => K n) c
theorem sm_cs {r : Option Nat} {c : Nat} {A' : Option β} {A : Option α} {K' : Nat → Option β} {f : Nat → Option α} (hr : yR ι r c) (hn : yR ι none 0 → Sm Q A' A) (hk : ∀ x a, yA ι x a → Sm Q (K' a) (f x)) : Sm Q (sycs c A' K') (zcs r A f) := by
  subst hr
  cases c with
  | zero => exact hn rfl
  | succ v => exact hk _ v rfl
theorem sm_if {p : Prop} [Decidable p] {q : Bool} {A' B' : Option β} {A B : Option α} (hp : p ↔ q = true) (h1 : Sm Q A' A) (h2 : Sm Q B' B) : Sm Q (syc q A' B') (if p then A else B) := by
  cases q
  · rw [if_neg (fun h => by cases hp.mp h)]; exact h2
  · rw [if_pos (hp.mpr rfl)]; exact h1
theorem sm_zb {x : Int32} {c : Nat} {A' : Option β} {A : Option α} (hx : yI x c) (h1 : Sm Q A' A) : Sm Q (syc (Nat.ble (Nat.mod c 4294967296) 1) A' none) (zg (zbl x) A) := by
  intro b hb
  rcases syc_s hb with ⟨h2, h3⟩ | ⟨_, h3⟩
  · have h4 : zbl x = true := by
      have h5 := Nat.le_of_ble_eq_true h2
      have hx2 := yI_mod hx
      have h6 : Nat.mod c 4294967296 = 0 ∨ Nat.mod c 4294967296 = 1 := by omega
      unfold yI at hx2
      rcases h6 with h6 | h6 <;> (rw [h6] at hx2; subst hx2; decide)
    rw [h4]
    exact h1 b h3
  · cases h3
theorem sm_ln {a x : Nat} {K' : Nat → Option β} (ht : syR ι e h0 t h) (ha : yA ι x a) (hk : ∀ c, yI (Int32.ofNat (zL h x)) c → Sm Q (K' c) g) : Sm Q (syr (syg 20 e.1 a) K') g := by
  intro b hb
  subst ha
  obtain ⟨v, hv, h3⟩ := syr_s hb
  exact hk v (by rw [ht.1 a v hv]; rfl) b h3
theorem sm_jn {B' B : Type} (P : B' → B → Prop) {r' : B'} {r : B} {f' : B' → Option β} {f : B → Option α} (h1 : P r' r) (h2 : ∀ k' k, P k' k → Sm Q (f' k') (f k)) : Sm Q (zjn r' f') (zjn r f) := h2 r' r h1
theorem sm_lp {B' B : Type} (P : B' → B → Prop) {z' : B'} {z : B} {F' : B' → B'} {F : B → B} (hz : P z' z) (hF : ∀ k' k, P k' k → P (F' k') (F k)) (n : Nat) : P (syl z' F' n) (zlp z F n) := by
  induction n with
  | zero => exact hz
  | succ n ih => exact hF _ _ ih
theorem sm_b {α1 β1 : Type} {Q1 : β1 → α1 → Prop} {s : Option β1} {g1 : Option α1} {K' : β1 → Option β} {f : α1 → Option α} (h1 : Sm Q1 s g1) (hk : ∀ b a, Q1 b a → Sm Q (K' b) (f a)) : Sm Q (syb s K') (Option.bind g1 f) := by
  intro b hb
  cases s with
  | none => cases hb
  | some b1 =>
    obtain ⟨a1, e1, q1⟩ := h1 b1 rfl
    subst e1
    exact hk b1 a1 q1 b hb
end SM
section SM2
variable {α β : Type} {Q : β → α → Prop} {ι : Nat → Nat} {e : Se} {h0 h : Zh} {t : Sy} {g : Option α}
theorem sm_f {c : Nat} {K' : Nat → Option β} (hk : Sm Q (K' c) g) : Sm Q (syf c K') g := by rw [syf_eq]; exact hk
theorem sm_lt0i {x : Int32} {c : Nat} {s : Option β} {f : Int32 → Option α} (hx : yI x c) (hk : ∀ y, yI y c → Sm Q s (f y)) : Sm Q s (zlt x f) := hk x hx
theorem sm_lt0j {x : Int64} {c : Nat} {s : Option β} {f : Int64 → Option α} (hx : yJ x c) (hk : ∀ y, yJ y c → Sm Q s (f y)) : Sm Q s (zlt x f) := hk x hx
theorem yR_some {x a : Nat} (h : yA ι x a) : yR ι (some x) (Nat.succ a) := by subst h; rfl
theorem sy_eqR {r r' : Option Nat} {c c' : Nat} (hι : ∀ a b, ι a = ι b → a = b) (h1 : yR ι r c) (h2 : yR ι r' c') : r = r' ↔ Nat.beq c c' = true := by
  subst h1 h2
  rw [Nat.beq_eq]
  cases c with
  | zero => cases c' with
    | zero => simp [yrr]
    | succ b => simp [yrr]
  | succ a => cases c' with
    | zero => simp [yrr]
    | succ b =>
      simp only [yrr, Option.some.injEq, Nat.succ.injEq]
      exact ⟨hι a b, congrArg ι⟩
noncomputable def sbi {β : Type} (s : Option Nat) (K : Nat → Option β) : Option β := syb s (fun c => syf c K)
noncomputable def sbj {β : Type} (s : Option Nat) (K : Nat → Option β) : Option β := syb s (fun c => syf c K)
noncomputable def sbr {β : Type} (s : Option Nat) (K : Nat → Option β) : Option β := syb s (fun c => syf c K)
noncomputable def sbv {β : Type} (s : Option Unit) (K : Unit → Option β) : Option β := syb s K
noncomputable def sbI {β : Type} (s : Option (Nat × Sy)) (K : Nat → Sy → Option β) : Option β := syb s (fun p => syf p.1 (fun c => K c p.2))
noncomputable def sbJ {β : Type} (s : Option (Nat × Sy)) (K : Nat → Sy → Option β) : Option β := syb s (fun p => syf p.1 (fun c => K c p.2))
noncomputable def sbR {β : Type} (s : Option (Nat × Sy)) (K : Nat → Sy → Option β) : Option β := syb s (fun p => syf p.1 (fun c => K c p.2))
noncomputable def sbV {β : Type} (s : Option Sy) (K : Sy → Option β) : Option β := syb s K
theorem sm_bi {s : Option Nat} {g1 : Option Int32} {K' : Nat → Option β} {f : Int32 → Option α} (h1 : Sm (fun b a => yI a b) s g1) (hk : ∀ x c, yI x c → Sm Q (K' c) (f x)) : Sm Q (sbi s K') (zbi g1 f) := sm_b h1 (fun b a q => by rw [syf_eq]; exact hk a b q)
theorem sm_bj {s : Option Nat} {g1 : Option Int64} {K' : Nat → Option β} {f : Int64 → Option α} (h1 : Sm (fun b a => yJ a b) s g1) (hk : ∀ x c, yJ x c → Sm Q (K' c) (f x)) : Sm Q (sbj s K') (zbj g1 f) := sm_b h1 (fun b a q => by rw [syf_eq]; exact hk a b q)
theorem sm_br {s : Option Nat} {g1 : Option (Option Nat)} {K' : Nat → Option β} {f : Option Nat → Option α} (h1 : Sm (fun b a => yR ι a b) s g1) (hk : ∀ x c, yR ι x c → Sm Q (K' c) (f x)) : Sm Q (sbr s K') (zbr g1 f) := sm_b h1 (fun b a q => by rw [syf_eq]; exact hk a b q)
theorem sm_bv {s : Option Unit} {g1 : Option Unit} {K' : Unit → Option β} {f : Unit → Option α} (h1 : Sm (fun _ _ => True) s g1) (hk : ∀ x c : Unit, True → Sm Q (K' c) (f x)) : Sm Q (sbv s K') (zbv g1 f) := sm_b h1 (fun b a q => hk a b q)
theorem sm_bI {s : Option (Nat × Sy)} {g1 : Option (Int32 × Zh)} {K' : Nat → Sy → Option β} {f : Int32 → Zh → Option α} (h1 : Sm (fun b a => yI a.1 b.1 ∧ syR ι e h0 b.2 a.2) s g1) (hk : ∀ x c, yI x c → ∀ h t, syR ι e h0 t h → Sm Q (K' c t) (f x h)) : Sm Q (sbI s K') (zbI g1 f) := sm_b h1 (fun b a q => by rw [syf_eq]; exact hk _ _ q.1 _ _ q.2)
theorem sm_bJ {s : Option (Nat × Sy)} {g1 : Option (Int64 × Zh)} {K' : Nat → Sy → Option β} {f : Int64 → Zh → Option α} (h1 : Sm (fun b a => yJ a.1 b.1 ∧ syR ι e h0 b.2 a.2) s g1) (hk : ∀ x c, yJ x c → ∀ h t, syR ι e h0 t h → Sm Q (K' c t) (f x h)) : Sm Q (sbJ s K') (zbJ g1 f) := sm_b h1 (fun b a q => by rw [syf_eq]; exact hk _ _ q.1 _ _ q.2)
theorem sm_bR {s : Option (Nat × Sy)} {g1 : Option (Option Nat × Zh)} {K' : Nat → Sy → Option β} {f : Option Nat → Zh → Option α} (h1 : Sm (fun b a => yR ι a.1 b.1 ∧ syR ι e h0 b.2 a.2) s g1) (hk : ∀ x c, yR ι x c → ∀ h t, syR ι e h0 t h → Sm Q (K' c t) (f x h)) : Sm Q (sbR s K') (zbR g1 f) := sm_b h1 (fun b a q => by rw [syf_eq]; exact hk _ _ q.1 _ _ q.2)
theorem sm_bV {s : Option Sy} {g1 : Option Zh} {K' : Sy → Option β} {f : Zh → Option α} (h1 : Sm (fun b a => syR ι e h0 b a) s g1) (hk : ∀ h t, syR ι e h0 t h → Sm Q (K' t) (f h)) : Sm Q (sbV s K') (zbV g1 f) := sm_b h1 (fun b a q => hk _ _ q)
end SM2
theorem yI_ushr {x y : Int32} {a b : Nat} (hx : yI x a) (hy : yI y b) : yI ((x.toUInt32 >>> (y.toUInt32 &&& Int32.toUInt32 31)).toInt32) (Nat.shiftRight (Nat.mod a 4294967296) (Nat.mod b 32)) := by
  apply yI_of
  show (x.toUInt32 >>> (y.toUInt32 &&& Int32.toUInt32 31)).toBitVec = _
  rw [UInt32.toBitVec_shiftRight, UInt32.toBitVec_and]
  show x.toBitVec >>> ((y.toBitVec &&& 31#32) % 32#32) = _
  rw [yI_toNat hx, yI_toNat hy]
  apply BitVec.eq_of_toNat_eq
  rw [BitVec.ushiftRight_eq', BitVec.toNat_ushiftRight, BitVec.toNat_umod, sy_and31]
  have e1 : (BitVec.ofNat 32 a).toNat = a % 4294967296 := BitVec.toNat_ofNat ..
  have e2 : (BitVec.ofNat 32 b).toNat % 32 % (32#32).toNat = b % 32 := by
    rw [BitVec.toNat_ofNat]; show b % 2 ^ 32 % 32 % 32 = _; omega
  rw [e1, e2]
  show _ = (BitVec.ofNat 32 ((a % 4294967296) >>> (b % 32))).toNat
  have hlt : a % 4294967296 < 4294967296 := Nat.mod_lt _ (by decide)
  have hs : (a % 4294967296) >>> (b % 32) ≤ a % 4294967296 := by rw [Nat.shiftRight_eq_div_pow]; exact Nat.div_le_self _ _
  rw [BitVec.toNat_ofNat, Nat.mod_eq_of_lt (a := (a % 4294967296) >>> (b % 32)) (by omega)]
/-! a stretch of a row onto another -/
def sych (W H p n : Nat) : Nat := Nat.mod (Nat.shiftRight H (Nat.mul W p)) (Nat.pow 2 (Nat.mul W n))
def sycp (W H p q n : Nat) : Nat := Nat.xor H (Nat.shiftLeft (Nat.xor (sych W H q n) (sych W H p n)) (Nat.mul W q))
theorem sych_bit (W H p n j : Nat) : (sych W H p n).testBit j = (decide (j < W * n) && H.testBit (W * p + j)) := by
  show ((H >>> (W * p)) % 2 ^ (W * n)).testBit j = _
  rw [Nat.testBit_mod_two_pow, Nat.testBit_shiftRight]
theorem syg_cp (W H p q n r : Nat) : syg W (sycp W H p q n) r = if q ≤ r ∧ r < q + n then syg W H (p + (r - q)) else syg W H r := by
  have hb : ∀ i, (sycp W H p q n).testBit i = (H.testBit i ^^ (decide (i ≥ W * q) && ((decide (i - W * q < W * n) && H.testBit (W * q + (i - W * q))) ^^ (decide (i - W * q < W * n) && H.testBit (W * p + (i - W * q)))))) := by
    intro i
    show (H ^^^ ((sych W H q n ^^^ sych W H p n) <<< (W * q))).testBit i = _
    rw [Nat.testBit_xor, Nat.testBit_shiftLeft, Nat.testBit_xor, sych_bit, sych_bit]
  apply Nat.eq_of_testBit_eq
  intro j
  rw [syg_bit, hb]
  by_cases hj : j < W
  · by_cases hr : q ≤ r ∧ r < q + n
    · rw [if_pos hr, syg_bit]
      obtain ⟨d, hd⟩ : ∃ d, r = q + d := ⟨r - q, by omega⟩
      subst hd
      have h1 : W * (q + d) = W * q + W * d := Nat.mul_add ..
      have h2 : W * (d + 1) ≤ W * n := Nat.mul_le_mul_left W (by omega)
      rw [Nat.mul_add] at h2
      have h3 : q + d - q = d := by omega
      have h4 : W * (p + d) = W * p + W * d := Nat.mul_add ..
      rw [h1, h3, h4]
      have h5 : W * q + W * d + j - W * q = W * d + j := by omega
      rw [h5]
      have h6 : W * d + j < W * n := by omega
      have h7 : W * q + W * d + j ≥ W * q := by omega
      have h8 : W * q + (W * d + j) = W * q + W * d + j := by omega
      have h9 : W * p + (W * d + j) = W * p + W * d + j := by omega
      simp [hj, h6, h7, h8, h9]
    · rw [if_neg hr, syg_bit]
      by_cases h1 : W * r + j ≥ W * q
      · have h2 : ¬ (W * r + j - W * q < W * n) := by
          intro h3
          apply hr
          have h4 : W * r + j < W * (q + n) := by rw [Nat.mul_add]; omega
          refine ⟨?_, ?_⟩
          · rcases Nat.lt_or_ge r q with h | h
            · have := Nat.mul_le_mul_left W (show r + 1 ≤ q by omega); rw [Nat.mul_add] at this; omega
            · exact h
          · rcases Nat.lt_or_ge r (q + n) with h | h
            · exact h
            · have := Nat.mul_le_mul_left W h; omega
        simp [hj, h2]
      · simp [hj, h1]
  · by_cases hr : q ≤ r ∧ r < q + n
    · rw [if_pos hr, syg_bit]; simp [hj]
    · rw [if_neg hr, syg_bit]; simp [hj]
noncomputable def scG {α : Type} (e : Se) (S a x b y n : Nat) (K : Option α) : Option α :=
  syc (Nat.ble (Nat.succ (Nat.add x n)) (syg 20 e.1 a)) (syc (Nat.ble (Nat.succ (Nat.add y n)) (syg 20 e.1 b)) (syc (Nat.ble (Nat.add x n) S) (syc (Nat.ble (Nat.add y n) S) (syc (Nat.beq (sych 1 e.2.1 (Nat.add (Nat.mul b 256) y) n) (Nat.sub (Nat.pow 2 n) 1)) K none) none) none) none) none
noncomputable def scJ {α : Type} (e : Se) (t : Sy) (a x b y n : Nat) (K : Sy → Option α) : Option α :=
  scG e 128 a (Nat.mod x 4294967296) b (Nat.mod y 4294967296) (Nat.mod n 4294967296) (syt t (fun i j r => syf (sycp 65 j (Nat.add (Nat.mul a 128) (Nat.mod x 4294967296)) (Nat.add (Nat.mul b 128) (Nat.mod y 4294967296)) (Nat.mod n 4294967296)) (fun H => K (i, H, r))))
noncomputable def scI {α : Type} (e : Se) (t : Sy) (a x b y n : Nat) (K : Sy → Option α) : Option α :=
  scG e 256 a (Nat.mod x 4294967296) b (Nat.mod y 4294967296) (Nat.mod n 4294967296) (syt t (fun i j r => syf (sycp 33 i (Nat.add (Nat.mul a 256) (Nat.mod x 4294967296)) (Nat.add (Nat.mul b 256) (Nat.mod y 4294967296)) (Nat.mod n 4294967296)) (fun H => K (H, j, r))))
theorem sych_ones {w p n k : Nat} (h : sych 1 w p n = 2 ^ n - 1) (hk : k < n) : syg 1 w (p + k) = 1 := by
  have h1 : (sych 1 w p n).testBit k = true := by rw [h, Nat.testBit_two_pow_sub_one]; simp [hk]
  rw [sych_bit] at h1
  simp only [Nat.one_mul, Bool.and_eq_true, decide_eq_true_eq] at h1
  apply Nat.eq_of_testBit_eq
  intro j
  rw [syg_bit]
  cases j with
  | zero => simp [h1.2]
  | succ j => simp [Nat.testBit_succ]
section SM3
variable {α β : Type} {Q : β → α → Prop} {ι : Nat → Nat} {e : Se} {h0 h : Zh} {t : Sy} {g : Option α}
theorem scG_s {S a x b y n : Nat} {K : Option β} {r : β} (h : scG e S a x b y n K = some r) : (x + n < syg 20 e.1 a ∧ y + n < syg 20 e.1 b ∧ x + n ≤ S ∧ y + n ≤ S ∧ sych 1 e.2.1 (b * 256 + y) n = 2 ^ n - 1) ∧ K = some r := by
  rcases syc_s h with ⟨h1, h⟩ | ⟨_, h⟩
  · rcases syc_s h with ⟨h2, h⟩ | ⟨_, h⟩
    · rcases syc_s h with ⟨h3, h⟩ | ⟨_, h⟩
      · rcases syc_s h with ⟨h4, h⟩ | ⟨_, h⟩
        · rcases syc_s h with ⟨h5, h⟩ | ⟨_, h⟩
          · exact ⟨⟨Nat.le_of_ble_eq_true h1, Nat.le_of_ble_eq_true h2, Nat.le_of_ble_eq_true h3, Nat.le_of_ble_eq_true h4, Nat.eq_of_beq_eq_true h5⟩, h⟩
          · cases h
        · cases h
      · cases h
    · cases h
  · cases h
theorem sm_cJ {a b x y c d n : Nat} {xi yi ni : Int32} {K' : Sy → Option β} {f : Zh → Option α} (hι : ∀ a b, ι a = ι b → a = b) (ht : syR ι e h0 t h) (ha : yA ι x a) (hx : yI xi c) (hb : yA ι y b) (hy : yI yi d) (hn : yI ni n) (hk : ∀ h1 t1, syR ι e h0 t1 h1 → Sm Q (K' t1) (f h1)) : Sm Q (scJ e t a c b d n K') (zg (zcp h x xi y yi ni) (zlt (zcJ h x (zx xi) y (zx yi) (zx ni)) f)) := by
  intro r hr
  subst ha hb
  obtain ⟨t1, t2, t3⟩ := t
  obtain ⟨⟨g1, g2, g3, g4, g5⟩, hr⟩ := scG_s hr
  rw [syt_eq, syf_eq] at hr
  change c % 4294967296 + n % 4294967296 < _ at g1
  change d % 4294967296 + n % 4294967296 < _ at g2
  change c % 4294967296 + n % 4294967296 ≤ _ at g3
  change d % 4294967296 + n % 4294967296 ≤ _ at g4
  have l1 := syg_lt 20 e.1 a
  have l2 := syg_lt 20 e.1 b
  have z1 := sy_zx hx (by omega)
  have z2 := sy_zx hy (by omega)
  have z3 := sy_zx hn (by omega)
  have L1 : zL h (ι a) = syg 20 e.1 a - 1 := ht.1 a _ (by omega)
  have L2 : zL h (ι b) = syg 20 e.1 b - 1 := ht.1 b _ (by omega)
  have hg : zcp h (ι a) xi (ι b) yi ni = true := by
    simp only [zcp, Bool.and_eq_true, decide_eq_true_eq]
    refine ⟨z1.2, z2.2, z3.2, ?_, ?_⟩
    · rw [z1.1, z3.1, L1]; omega
    · rw [z2.1, z3.1, L2]; omega
  rw [hg]
  refine hk _ _ ?_ r hr
  rw [z1.1, z2.1, z3.1]
  obtain ⟨q1, q2, q3, q4, q5, q6, q7, q8⟩ := ht
  refine ⟨q1, q2, ?_, q4, q5, ?_, q7, q8⟩
  · intro a' k' v' hk' hg'
    change syg 65 (sycp 65 t2 (a * 128 + c % 4294967296) (b * 128 + d % 4294967296) (n % 4294967296)) (a' * 128 + k') = v' + 1 at hg'
    rw [syg_cp] at hg'
    show yJ (if ι a' = ι b then va_cpy (h.2.2.2.2.1 (ι a)) (h.2.2.2.2.1 (ι b)) (c % 4294967296) (d % 4294967296) (n % 4294967296) k' else zJ h (ι a') k') v'
    by_cases hab : a' = b
    · subst hab
      rw [if_pos rfl]
      unfold va_cpy
      by_cases hr2 : d % 4294967296 ≤ k' ∧ k' < d % 4294967296 + n % 4294967296
      · rw [if_pos (by omega)] at hg'
        rw [if_pos hr2]
        refine q3 a _ v' (by omega) ?_
        rw [← hg']
        congr 1
        omega
      · rw [if_neg (by omega)] at hg'
        rw [if_neg hr2]
        exact q3 a' k' v' hk' hg'
    · rw [if_neg (fun hh => hab (hι _ _ hh))]
      rw [if_neg (by omega)] at hg'
      exact q3 a' k' v' hk' hg'
  · intro b' k'
    show (if b' = ι b then va_cpy (h.2.2.2.2.1 (ι a)) (h.2.2.2.2.1 (ι b)) (c % 4294967296) (d % 4294967296) (n % 4294967296) k' else zJ h b' k') = _ ∨ _
    by_cases hb' : b' = ι b
    · subst hb'
      rw [if_pos rfl]
      unfold va_cpy
      by_cases hr2 : d % 4294967296 ≤ k' ∧ k' < d % 4294967296 + n % 4294967296
      · right
        refine ⟨b, rfl, by omega, ?_⟩
        have := sych_ones g5 (k := k' - d % 4294967296) (by change _ < n % 4294967296; omega)
        have e3 : b * 256 + d % 4294967296 + (k' - d % 4294967296) = b * 256 + k' := by omega
        rw [← e3]
        exact this
      · rw [if_neg hr2]
        exact q6 (ι b) k'
    · rw [if_neg hb']
      exact q6 b' k'
theorem sm_cI {a b x y c d n : Nat} {xi yi ni : Int32} {K' : Sy → Option β} {f : Zh → Option α} (hι : ∀ a b, ι a = ι b → a = b) (ht : syR ι e h0 t h) (ha : yA ι x a) (hx : yI xi c) (hb : yA ι y b) (hy : yI yi d) (hn : yI ni n) (hk : ∀ h1 t1, syR ι e h0 t1 h1 → Sm Q (K' t1) (f h1)) : Sm Q (scI e t a c b d n K') (zg (zcp h x xi y yi ni) (zlt (zcI h x (zx xi) y (zx yi) (zx ni)) f)) := by
  intro r hr
  subst ha hb
  obtain ⟨t1, t2, t3⟩ := t
  obtain ⟨⟨g1, g2, g3, g4, g5⟩, hr⟩ := scG_s hr
  rw [syt_eq, syf_eq] at hr
  change c % 4294967296 + n % 4294967296 < _ at g1
  change d % 4294967296 + n % 4294967296 < _ at g2
  change c % 4294967296 + n % 4294967296 ≤ _ at g3
  change d % 4294967296 + n % 4294967296 ≤ _ at g4
  have l1 := syg_lt 20 e.1 a
  have l2 := syg_lt 20 e.1 b
  have z1 := sy_zx hx (by omega)
  have z2 := sy_zx hy (by omega)
  have z3 := sy_zx hn (by omega)
  have L1 : zL h (ι a) = syg 20 e.1 a - 1 := ht.1 a _ (by omega)
  have L2 : zL h (ι b) = syg 20 e.1 b - 1 := ht.1 b _ (by omega)
  have hg : zcp h (ι a) xi (ι b) yi ni = true := by
    simp only [zcp, Bool.and_eq_true, decide_eq_true_eq]
    refine ⟨z1.2, z2.2, z3.2, ?_, ?_⟩
    · rw [z1.1, z3.1, L1]; omega
    · rw [z2.1, z3.1, L2]; omega
  rw [hg]
  refine hk _ _ ?_ r hr
  rw [z1.1, z2.1, z3.1]
  obtain ⟨q1, q2, q3, q4, q5, q6, q7, q8⟩ := ht
  refine ⟨q1, ?_, q3, q4, ?_, q6, q7, q8⟩
  · intro a' k' v' hk' hg'
    change syg 33 (sycp 33 t1 (a * 256 + c % 4294967296) (b * 256 + d % 4294967296) (n % 4294967296)) (a' * 256 + k') = v' + 1 at hg'
    rw [syg_cp] at hg'
    show yI (if ι a' = ι b then va_cpy (h.2.2.2.1 (ι a)) (h.2.2.2.1 (ι b)) (c % 4294967296) (d % 4294967296) (n % 4294967296) k' else zI h (ι a') k') v'
    by_cases hab : a' = b
    · subst hab
      rw [if_pos rfl]
      unfold va_cpy
      by_cases hr2 : d % 4294967296 ≤ k' ∧ k' < d % 4294967296 + n % 4294967296
      · rw [if_pos (by omega)] at hg'
        rw [if_pos hr2]
        refine q2 a _ v' (by omega) ?_
        have e3 : a * 256 + (c % 4294967296 + (k' - d % 4294967296)) = a * 256 + c % 4294967296 + (a' * 256 + k' - (a' * 256 + d % 4294967296)) := by omega
        rw [e3]
        exact hg'
      · rw [if_neg (by omega)] at hg'
        rw [if_neg hr2]
        exact q2 a' k' v' hk' hg'
    · rw [if_neg (fun hh => hab (hι _ _ hh))]
      rw [if_neg (by omega)] at hg'
      exact q2 a' k' v' hk' hg'
  · intro b' k'
    show (if b' = ι b then va_cpy (h.2.2.2.1 (ι a)) (h.2.2.2.1 (ι b)) (c % 4294967296) (d % 4294967296) (n % 4294967296) k' else zI h b' k') = _ ∨ _
    by_cases hb' : b' = ι b
    · subst hb'
      rw [if_pos rfl]
      unfold va_cpy
      by_cases hr2 : d % 4294967296 ≤ k' ∧ k' < d % 4294967296 + n % 4294967296
      · right
        refine ⟨b, rfl, by omega, ?_⟩
        have := sych_ones g5 (k := k' - d % 4294967296) (by change _ < n % 4294967296; omega)
        have e3 : b * 256 + d % 4294967296 + (k' - d % 4294967296) = b * 256 + k' := by omega
        rw [← e3]
        exact this
      · rw [if_neg hr2]
        exact q5 (ι b) k'
    · rw [if_neg hb']
      exact q5 b' k'
end SM3
