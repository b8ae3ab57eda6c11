/-- an instruction stands at a place, and the next one behind it -/
def zD (M : Zm) (pc : Nat) (i : Instr) (n pc2 : Nat) : Prop := decode (mC M) pc = .ok (i, n) ∧ pc + n = pc2
def zchk (cc : ByteArray) (tb : List (Nat × Instr × Nat × Nat)) : Bool := tb.all (fun q => decide (decode cc q.1 = .ok (q.2.1, q.2.2.1)) && decide (q.1 + q.2.2.1 = q.2.2.2))
theorem zdt {M : Zm} {tb : List (Nat × Instr × Nat × Nat)} (h : zchk (mC M) tb = true) (k : Nat) {pc : Nat} {i : Instr} {n pc2 : Nat} (hk : tb[k]? = some (pc, i, n, pc2)) : zD M pc i n pc2 := by
  have h1 := List.all_eq_true.mp h _ (List.mem_of_getElem? hk)
  simp only [Bool.and_eq_true, decide_eq_true_eq] at h1
  exact h1
def zoI (b : Int32 × Zh) : Option Value × Zh := (some (.int b.1), b.2)
def zoJ (b : Int64 × Zh) : Option Value × Zh := (some (.long b.1), b.2)
def zoR (b : Option Nat × Zh) : Option Value × Zh := (some (va_rf b.1), b.2)
def zoV (b : Zh) : Option Value × Zh := (none, b)
def zoi (h : Zh) (b : Int32) : Option Value × Zh := (some (.int b), h)
def zoj (h : Zh) (b : Int64) : Option Value × Zh := (some (.long b), h)
def zor (h : Zh) (b : Option Nat) : Option Value × Zh := (some (va_rf b), h)
def zov (h : Zh) (_ : Unit) : Option Value × Zh := (none, h)
def zbI {α : Type} (g : Option (Int32 × Zh)) (f : Int32 → Zh → Option α) : Option α := Option.bind g (fun b => f b.1 b.2)
def zbJ {α : Type} (g : Option (Int64 × Zh)) (f : Int64 → Zh → Option α) : Option α := Option.bind g (fun b => f b.1 b.2)
def zbR {α : Type} (g : Option (Option Nat × Zh)) (f : Option Nat → Zh → Option α) : Option α := Option.bind g (fun b => f b.1 b.2)
def zbV {α : Type} (g : Option Zh) (f : Zh → Option α) : Option α := Option.bind g f
def zbi {α : Type} (g : Option Int32) (f : Int32 → Option α) : Option α := Option.bind g f
def zbj {α : Type} (g : Option Int64) (f : Int64 → Option α) : Option α := Option.bind g f
def zbr {α : Type} (g : Option (Option Nat)) (f : Option Nat → Option α) : Option α := Option.bind g f
def zbv {α : Type} (g : Option Unit) (f : Unit → Option α) : Option α := Option.bind g f
def zbl (x : Int32) : Bool := decide (x = 0 ∨ x = 1)
theorem zbl_of {x : Int32} (h : zbl x = true) : x = 0 ∨ x = 1 := by simpa [zbl] using h
section ZW
variable {l : Launch} {α : Type} {M : Zm} {n0 s0 τ : Nat} {cvt : α → Option Value × Zh} {pc pc2 : Nat} {ls ls2 : List (Option (Value × Nat))} {st st0 : List (Value × Nat)} {h : Zh} {g : Option α}
theorem zr_leta {i a : Nat} {f : Nat → Option α} (k : ∀ y : Nat, V l M n0 s0 τ cvt pc ls ((.ref y, a) :: st) h (f y)) : V l M n0 s0 τ cvt pc ls ((.ref i, a) :: st) h (zlt i f) := k i
theorem zr_cast (st2 : List (Value × Nat)) (hm : st2.map (fun q => q.1) = st.map (fun q => q.1)) (ht : ∀ h, zTo h st → zTo h st2) (k : V l M n0 s0 τ cvt pc ls st2 h g) : V l M n0 s0 τ cvt pc ls st h g :=
  v_pure k (fun _ t => ht h t) (fun p e R s m args below meth c ρ H locs L cells slots Q hx hb ho hq lv k => by
    have e : st.map (fun q => zcv ρ q.1) = st2.map (fun q => zcv ρ q.1) := by
      have h1 : st.map (fun q => zcv ρ q.1) = (st.map (fun q => q.1)).map (zcv ρ) := by simp
      have h2 : st2.map (fun q => zcv ρ q.1) = (st2.map (fun q => q.1)).map (zcv ρ) := by simp
      rw [h1, h2, hm]
    rw [e]; exact k)
theorem zr_iadd {x y : Int32} {a b : Nat} (hd : zD M pc (.iadd) 1 pc2) (k : V l M n0 s0 τ cvt pc2 ls ((.int (x + y), 0) :: st) h g) : V l M n0 s0 τ cvt pc ls ((.int y, a) :: (.int x, b) :: st) h g := by
  obtain ⟨hd, rfl⟩ := hd
  exact v_iadd hd k
theorem zr_isub {x y : Int32} {a b : Nat} (hd : zD M pc (.isub) 1 pc2) (k : V l M n0 s0 τ cvt pc2 ls ((.int (x - y), 0) :: st) h g) : V l M n0 s0 τ cvt pc ls ((.int y, a) :: (.int x, b) :: st) h g := by
  obtain ⟨hd, rfl⟩ := hd
  exact v_isub hd k
theorem zr_imul {x y : Int32} {a b : Nat} (hd : zD M pc (.imul) 1 pc2) (k : V l M n0 s0 τ cvt pc2 ls ((.int (x * y), 0) :: st) h g) : V l M n0 s0 τ cvt pc ls ((.int y, a) :: (.int x, b) :: st) h g := by
  obtain ⟨hd, rfl⟩ := hd
  exact v_imul hd k
theorem zr_iand {x y : Int32} {a b : Nat} (hd : zD M pc (.iand) 1 pc2) (k : V l M n0 s0 τ cvt pc2 ls ((.int (x &&& y), 0) :: st) h g) : V l M n0 s0 τ cvt pc ls ((.int y, a) :: (.int x, b) :: st) h g := by
  obtain ⟨hd, rfl⟩ := hd
  exact v_iand hd k
theorem zr_ior {x y : Int32} {a b : Nat} (hd : zD M pc (.ior) 1 pc2) (k : V l M n0 s0 τ cvt pc2 ls ((.int (x ||| y), 0) :: st) h g) : V l M n0 s0 τ cvt pc ls ((.int y, a) :: (.int x, b) :: st) h g := by
  obtain ⟨hd, rfl⟩ := hd
  exact v_ior hd k
theorem zr_ixor {x y : Int32} {a b : Nat} (hd : zD M pc (.ixor) 1 pc2) (k : V l M n0 s0 τ cvt pc2 ls ((.int (x ^^^ y), 0) :: st) h g) : V l M n0 s0 τ cvt pc ls ((.int y, a) :: (.int x, b) :: st) h g := by
  obtain ⟨hd, rfl⟩ := hd
  exact v_ixor hd k
theorem zr_ishl {x y : Int32} {a b : Nat} (hd : zD M pc (.ishl) 1 pc2) (k : V l M n0 s0 τ cvt pc2 ls ((.int (x <<< (y &&& 31)), 0) :: st) h g) : V l M n0 s0 τ cvt pc ls ((.int y, a) :: (.int x, b) :: st) h g := by
  obtain ⟨hd, rfl⟩ := hd
  exact v_ishl hd k
theorem zr_ishr {x y : Int32} {a b : Nat} (hd : zD M pc (.ishr) 1 pc2) (k : V l M n0 s0 τ cvt pc2 ls ((.int (x >>> (y &&& 31)), 0) :: st) h g) : V l M n0 s0 τ cvt pc ls ((.int y, a) :: (.int x, b) :: st) h g := by
  obtain ⟨hd, rfl⟩ := hd
  exact v_ishr hd k
theorem zr_ladd {x y : Int64} {a b : Nat} (hd : zD M pc (.ladd) 1 pc2) (k : V l M n0 s0 τ cvt pc2 ls ((.long (x + y), 0) :: st) h g) : V l M n0 s0 τ cvt pc ls ((.long y, a) :: (.long x, b) :: st) h g := by
  obtain ⟨hd, rfl⟩ := hd
  exact v_ladd hd k
theorem zr_lsub {x y : Int64} {a b : Nat} (hd : zD M pc (.lsub) 1 pc2) (k : V l M n0 s0 τ cvt pc2 ls ((.long (x - y), 0) :: st) h g) : V l M n0 s0 τ cvt pc ls ((.long y, a) :: (.long x, b) :: st) h g := by
  obtain ⟨hd, rfl⟩ := hd
  exact v_lsub hd k
theorem zr_lmul {x y : Int64} {a b : Nat} (hd : zD M pc (.lmul) 1 pc2) (k : V l M n0 s0 τ cvt pc2 ls ((.long (x * y), 0) :: st) h g) : V l M n0 s0 τ cvt pc ls ((.long y, a) :: (.long x, b) :: st) h g := by
  obtain ⟨hd, rfl⟩ := hd
  exact v_lmul hd k
theorem zr_lxor {x y : Int64} {a b : Nat} (hd : zD M pc (.lxor) 1 pc2) (k : V l M n0 s0 τ cvt pc2 ls ((.long (x ^^^ y), 0) :: st) h g) : V l M n0 s0 τ cvt pc ls ((.long y, a) :: (.long x, b) :: st) h g := by
  obtain ⟨hd, rfl⟩ := hd
  exact v_lxor hd k
theorem zr_idiv {x y : Int32} {a b : Nat} (hd : zD M pc (.idiv) 1 pc2) (k : V l M n0 s0 τ cvt pc2 ls ((.int (x / y), 0) :: st) h g) : V l M n0 s0 τ cvt pc ls ((.int y, a) :: (.int x, b) :: st) h (if y = 0 then none else g) := by
  obtain ⟨hd, rfl⟩ := hd
  exact v_idiv hd k
theorem zr_irem {x y : Int32} {a b : Nat} (hd : zD M pc (.irem) 1 pc2) (k : V l M n0 s0 τ cvt pc2 ls ((.int (x - x / y * y), 0) :: st) h g) : V l M n0 s0 τ cvt pc ls ((.int y, a) :: (.int x, b) :: st) h (if y = 0 then none else g) := by
  obtain ⟨hd, rfl⟩ := hd
  exact v_irem hd k
theorem zr_ldiv {x y : Int64} {a b : Nat} (hd : zD M pc (.ldiv) 1 pc2) (k : V l M n0 s0 τ cvt pc2 ls ((.long (x / y), 0) :: st) h g) : V l M n0 s0 τ cvt pc ls ((.long y, a) :: (.long x, b) :: st) h (if y = 0 then none else g) := by
  obtain ⟨hd, rfl⟩ := hd
  exact v_ldiv hd k
theorem zr_lrem {x y : Int64} {a b : Nat} (hd : zD M pc (.lrem) 1 pc2) (k : V l M n0 s0 τ cvt pc2 ls ((.long (x - x / y * y), 0) :: st) h g) : V l M n0 s0 τ cvt pc ls ((.long y, a) :: (.long x, b) :: st) h (if y = 0 then none else g) := by
  obtain ⟨hd, rfl⟩ := hd
  exact v_lrem hd k
theorem zr_ineg {x : Int32} {a : Nat} (hd : zD M pc (.ineg) 1 pc2) (k : V l M n0 s0 τ cvt pc2 ls ((.int (-x), 0) :: st) h g) : V l M n0 s0 τ cvt pc ls ((.int x, a) :: st) h g := by
  obtain ⟨hd, rfl⟩ := hd
  exact v_ineg hd k
theorem zr_lneg {x : Int64} {a : Nat} (hd : zD M pc (.lneg) 1 pc2) (k : V l M n0 s0 τ cvt pc2 ls ((.long (-x), 0) :: st) h g) : V l M n0 s0 τ cvt pc ls ((.long x, a) :: st) h g := by
  obtain ⟨hd, rfl⟩ := hd
  exact v_lneg hd k
theorem zr_i2l {x : Int32} {a : Nat} (hd : zD M pc (.i2l) 1 pc2) (k : V l M n0 s0 τ cvt pc2 ls ((.long (x.toInt64), 0) :: st) h g) : V l M n0 s0 τ cvt pc ls ((.int x, a) :: st) h g := by
  obtain ⟨hd, rfl⟩ := hd
  exact v_i2l hd k
theorem zr_l2i {x : Int64} {a : Nat} (hd : zD M pc (.l2i) 1 pc2) (k : V l M n0 s0 τ cvt pc2 ls ((.int (x.toInt32), 0) :: st) h g) : V l M n0 s0 τ cvt pc ls ((.long x, a) :: st) h g := by
  obtain ⟨hd, rfl⟩ := hd
  exact v_l2i hd k
theorem zr_i2b {x : Int32} {a : Nat} (hd : zD M pc (.i2b) 1 pc2) (k : V l M n0 s0 τ cvt pc2 ls ((.int (x.toInt8.toInt32), 0) :: st) h g) : V l M n0 s0 τ cvt pc ls ((.int x, a) :: st) h g := by
  obtain ⟨hd, rfl⟩ := hd
  exact v_i2b hd k
theorem zr_i2s {x : Int32} {a : Nat} (hd : zD M pc (.i2s) 1 pc2) (k : V l M n0 s0 τ cvt pc2 ls ((.int (x.toInt16.toInt32), 0) :: st) h g) : V l M n0 s0 τ cvt pc ls ((.int x, a) :: st) h g := by
  obtain ⟨hd, rfl⟩ := hd
  exact v_i2s hd k
theorem zr_iushr {x y : Int32} {a b : Nat} (hd : zD M pc (.iushr) 1 pc2) (k : V l M n0 s0 τ cvt pc2 ls ((.int ((x.toUInt32 >>> (y.toUInt32 &&& Int32.toUInt32 31)).toInt32), 0) :: st) h g) : V l M n0 s0 τ cvt pc ls ((.int y, a) :: (.int x, b) :: st) h g := by
  obtain ⟨hd, rfl⟩ := hd
  exact v_iushr hd k
theorem zr_lshl {x : Int64} {y : Int32} {a b : Nat} (hd : zD M pc (.lshl) 1 pc2) (k : V l M n0 s0 τ cvt pc2 ls ((.long (x <<< (y.toInt64 &&& 63)), 0) :: st) h g) : V l M n0 s0 τ cvt pc ls ((.int y, a) :: (.long x, b) :: st) h g := by
  obtain ⟨hd, rfl⟩ := hd
  exact v_lshl hd k
theorem zr_lcmp {x y : Int64} {a b : Nat} (hd : zD M pc (.lcmp) 1 pc2) (k : V l M n0 s0 τ cvt pc2 ls ((.int (lg_cmp x y), 0) :: st) h g) : V l M n0 s0 τ cvt pc ls ((.long y, a) :: (.long x, b) :: st) h g := by
  obtain ⟨hd, rfl⟩ := hd
  exact v_lcmp hd k
theorem zr_iconst {n : Int} {v : Int32} (hd : zD M pc (.iconst n) 1 pc2) (hv : Int32.ofInt n = v) (k : V l M n0 s0 τ cvt pc2 ls ((.int v, 0) :: st) h g) : V l M n0 s0 τ cvt pc ls st h g := by
  obtain ⟨hd, rfl⟩ := hd
  exact v_iconst hd hv k
theorem zr_bipush {n : Int} {v : Int32} (hd : zD M pc (.bipush n) 2 pc2) (hv : (Int8.ofInt n).toInt32 = v) (k : V l M n0 s0 τ cvt pc2 ls ((.int v, 0) :: st) h g) : V l M n0 s0 τ cvt pc ls st h g := by
  obtain ⟨hd, rfl⟩ := hd
  exact v_bipush hd hv k
theorem zr_sipush {n : Int} {v : Int32} (hd : zD M pc (.sipush n) 3 pc2) (hv : (Int16.ofInt n).toInt32 = v) (k : V l M n0 s0 τ cvt pc2 ls ((.int v, 0) :: st) h g) : V l M n0 s0 τ cvt pc ls st h g := by
  obtain ⟨hd, rfl⟩ := hd
  exact v_sipush hd hv k
theorem zr_lconst {n : Fin 2} {v : Int64} (hd : zD M pc (.lconst n) 1 pc2) (hv : Int64.ofNat (n : Nat) = v) (k : V l M n0 s0 τ cvt pc2 ls ((.long v, 0) :: st) h g) : V l M n0 s0 τ cvt pc ls st h g := by
  obtain ⟨hd, rfl⟩ := hd
  exact v_lconst hd hv k
theorem zr_ldc {i : Nat} {v : Int32} (hd : zD M pc (.ldc i) 2 pc2) (hw : Cond.constant (mO M) i v ∈ zT) (k : V l M n0 s0 τ cvt pc2 ls ((.int v, 0) :: st) h g) : V l M n0 s0 τ cvt pc ls st h g := by
  obtain ⟨hd, rfl⟩ := hd
  exact v_ldc hd hw k
theorem zr_ldc_w {i : Nat} {v : Int32} (hd : zD M pc (.ldc_w i) 3 pc2) (hw : Cond.constant (mO M) i v ∈ zT) (k : V l M n0 s0 τ cvt pc2 ls ((.int v, 0) :: st) h g) : V l M n0 s0 τ cvt pc ls st h g := by
  obtain ⟨hd, rfl⟩ := hd
  exact v_ldc_w hd hw k
theorem zr_ldc2 {i : Nat} {v : Int64} (hd : zD M pc (.ldc2_w i) 3 pc2) (hw : Cond.constantLong (mO M) i v ∈ zT) (k : V l M n0 s0 τ cvt pc2 ls ((.long v, 0) :: st) h g) : V l M n0 s0 τ cvt pc ls st h g := by
  obtain ⟨hd, rfl⟩ := hd
  exact v_ldc2 hd hw k
theorem zr_null {a : Nat} (hd : zD M pc (.aconst_null) 1 pc2) (k : V l M n0 s0 τ cvt pc2 ls ((va_rf none, a) :: st) h g) : V l M n0 s0 τ cvt pc ls st h g := by
  obtain ⟨hd, rfl⟩ := hd
  exact v_null hd k
theorem zr_iload_n {j : Fin 4} {i a : Nat} {x : Int32} (hd : zD M pc (.iload_n j) 1 pc2) (hi : (j : Nat) = i) (hl : ls[i]? = some (some (.int x, a))) (k : V l M n0 s0 τ cvt pc2 ls ((.int x, 0) :: st) h g) : V l M n0 s0 τ cvt pc ls st h g := by
  obtain ⟨hd, rfl⟩ := hd
  exact v_iload_n hd hi hl k
theorem zr_iload {i a : Nat} {x : Int32} (hd : zD M pc (.iload i) 2 pc2) (hl : ls[i]? = some (some (.int x, a))) (k : V l M n0 s0 τ cvt pc2 ls ((.int x, 0) :: st) h g) : V l M n0 s0 τ cvt pc ls st h g := by
  obtain ⟨hd, rfl⟩ := hd
  exact v_iload hd hl k
theorem zr_lload_n {j : Fin 4} {i a : Nat} {x : Int64} (hd : zD M pc (.lload_n j) 1 pc2) (hi : (j : Nat) = i) (hl : ls[i]? = some (some (.long x, a))) (k : V l M n0 s0 τ cvt pc2 ls ((.long x, 0) :: st) h g) : V l M n0 s0 τ cvt pc ls st h g := by
  obtain ⟨hd, rfl⟩ := hd
  exact v_lload_n hd hi hl k
theorem zr_lload {i a : Nat} {x : Int64} (hd : zD M pc (.lload i) 2 pc2) (hl : ls[i]? = some (some (.long x, a))) (k : V l M n0 s0 τ cvt pc2 ls ((.long x, 0) :: st) h g) : V l M n0 s0 τ cvt pc ls st h g := by
  obtain ⟨hd, rfl⟩ := hd
  exact v_lload hd hl k
theorem zr_aload_n {j : Fin 4} {i a : Nat} {r : Option Nat} (hd : zD M pc (.aload_n j) 1 pc2) (hi : (j : Nat) = i) (hl : ls[i]? = some (some (va_rf r, a))) (k : V l M n0 s0 τ cvt pc2 ls ((va_rf r, a) :: st) h g) : V l M n0 s0 τ cvt pc ls st h g := by
  obtain ⟨hd, rfl⟩ := hd
  exact v_aload_n hd hi hl k
theorem zr_aload {i a : Nat} {r : Option Nat} (hd : zD M pc (.aload i) 2 pc2) (hl : ls[i]? = some (some (va_rf r, a))) (k : V l M n0 s0 τ cvt pc2 ls ((va_rf r, a) :: st) h g) : V l M n0 s0 τ cvt pc ls st h g := by
  obtain ⟨hd, rfl⟩ := hd
  exact v_aload hd hl k
theorem zr_dup {v : Value} {a : Nat} (hd : zD M pc (.dup) 1 pc2) (hc : v.category = 1) (k : V l M n0 s0 τ cvt pc2 ls ((v, a) :: (v, a) :: st) h g) : V l M n0 s0 τ cvt pc ls ((v, a) :: st) h g := by
  obtain ⟨hd, rfl⟩ := hd
  exact v_dup hd hc k
theorem zr_pop {v : Value} {a : Nat} (hd : zD M pc (.pop) 1 pc2) (hc : v.category = 1) (k : V l M n0 s0 τ cvt pc2 ls st h g) : V l M n0 s0 τ cvt pc ls ((v, a) :: st) h g := by
  obtain ⟨hd, rfl⟩ := hd
  exact v_pop hd hc k
theorem zr_dup2 {v u : Value} {a b : Nat} (hd : zD M pc (.dup2) 1 pc2) (hc : v.category = 1) (hc2 : u.category = 1) (k : V l M n0 s0 τ cvt pc2 ls ((v, a) :: (u, b) :: (v, a) :: (u, b) :: st) h g) : V l M n0 s0 τ cvt pc ls ((v, a) :: (u, b) :: st) h g := by
  obtain ⟨hd, rfl⟩ := hd
  exact v_dup2 hd hc hc2 k
theorem zr_goto {t : Nat} {off : Int} (hd : zD M pc (.goto off) 3 pc2) (ht : (pc : Int) + off = (t : Int)) (k : V l M n0 s0 τ cvt t ls st h g) : V l M n0 s0 τ cvt pc ls st h g := by
  obtain ⟨hd, rfl⟩ := hd
  exact v_goto hd ht k
theorem zr_icmp_eq {x y : Int32} {a b t : Nat} {off : Int} {g1 g2 : Option α} (hd : zD M pc (.if_icmp .eq off) 3 pc2) (ht : (pc : Int) + off = (t : Int)) (kt : V l M n0 s0 τ cvt t ls st h g1) (kf : V l M n0 s0 τ cvt pc2 ls st h g2) : V l M n0 s0 τ cvt pc ls ((.int y, a) :: (.int x, b) :: st) h (if x = y then g1 else g2) := by
  obtain ⟨hd, rfl⟩ := hd
  exact v_icmp_eq hd ht kt kf
theorem zr_icmp_ne {x y : Int32} {a b t : Nat} {off : Int} {g1 g2 : Option α} (hd : zD M pc (.if_icmp .ne off) 3 pc2) (ht : (pc : Int) + off = (t : Int)) (kt : V l M n0 s0 τ cvt t ls st h g1) (kf : V l M n0 s0 τ cvt pc2 ls st h g2) : V l M n0 s0 τ cvt pc ls ((.int y, a) :: (.int x, b) :: st) h (if x = y then g2 else g1) := by
  obtain ⟨hd, rfl⟩ := hd
  exact v_icmp_ne hd ht kt kf
theorem zr_icmp_lt {x y : Int32} {a b t : Nat} {off : Int} {g1 g2 : Option α} (hd : zD M pc (.if_icmp .lt off) 3 pc2) (ht : (pc : Int) + off = (t : Int)) (kt : V l M n0 s0 τ cvt t ls st h g1) (kf : V l M n0 s0 τ cvt pc2 ls st h g2) : V l M n0 s0 τ cvt pc ls ((.int y, a) :: (.int x, b) :: st) h (if x < y then g1 else g2) := by
  obtain ⟨hd, rfl⟩ := hd
  exact v_icmp_lt hd ht kt kf
theorem zr_icmp_ge {x y : Int32} {a b t : Nat} {off : Int} {g1 g2 : Option α} (hd : zD M pc (.if_icmp .ge off) 3 pc2) (ht : (pc : Int) + off = (t : Int)) (kt : V l M n0 s0 τ cvt t ls st h g1) (kf : V l M n0 s0 τ cvt pc2 ls st h g2) : V l M n0 s0 τ cvt pc ls ((.int y, a) :: (.int x, b) :: st) h (if y ≤ x then g1 else g2) := by
  obtain ⟨hd, rfl⟩ := hd
  exact v_icmp_ge hd ht kt kf
theorem zr_icmp_gt {x y : Int32} {a b t : Nat} {off : Int} {g1 g2 : Option α} (hd : zD M pc (.if_icmp .gt off) 3 pc2) (ht : (pc : Int) + off = (t : Int)) (kt : V l M n0 s0 τ cvt t ls st h g1) (kf : V l M n0 s0 τ cvt pc2 ls st h g2) : V l M n0 s0 τ cvt pc ls ((.int y, a) :: (.int x, b) :: st) h (if y < x then g1 else g2) := by
  obtain ⟨hd, rfl⟩ := hd
  exact v_icmp_gt hd ht kt kf
theorem zr_icmp_le {x y : Int32} {a b t : Nat} {off : Int} {g1 g2 : Option α} (hd : zD M pc (.if_icmp .le off) 3 pc2) (ht : (pc : Int) + off = (t : Int)) (kt : V l M n0 s0 τ cvt t ls st h g1) (kf : V l M n0 s0 τ cvt pc2 ls st h g2) : V l M n0 s0 τ cvt pc ls ((.int y, a) :: (.int x, b) :: st) h (if x ≤ y then g1 else g2) := by
  obtain ⟨hd, rfl⟩ := hd
  exact v_icmp_le hd ht kt kf
theorem zr_if_eq {x : Int32} {a t : Nat} {off : Int} {g1 g2 : Option α} (hd : zD M pc (.ifCond .eq off) 3 pc2) (ht : (pc : Int) + off = (t : Int)) (kt : V l M n0 s0 τ cvt t ls st h g1) (kf : V l M n0 s0 τ cvt pc2 ls st h g2) : V l M n0 s0 τ cvt pc ls ((.int x, a) :: st) h (if x = 0 then g1 else g2) := by
  obtain ⟨hd, rfl⟩ := hd
  exact v_if_eq hd ht kt kf
theorem zr_if_ne {x : Int32} {a t : Nat} {off : Int} {g1 g2 : Option α} (hd : zD M pc (.ifCond .ne off) 3 pc2) (ht : (pc : Int) + off = (t : Int)) (kt : V l M n0 s0 τ cvt t ls st h g1) (kf : V l M n0 s0 τ cvt pc2 ls st h g2) : V l M n0 s0 τ cvt pc ls ((.int x, a) :: st) h (if x = 0 then g2 else g1) := by
  obtain ⟨hd, rfl⟩ := hd
  exact v_if_ne hd ht kt kf
theorem zr_if_lt {x : Int32} {a t : Nat} {off : Int} {g1 g2 : Option α} (hd : zD M pc (.ifCond .lt off) 3 pc2) (ht : (pc : Int) + off = (t : Int)) (kt : V l M n0 s0 τ cvt t ls st h g1) (kf : V l M n0 s0 τ cvt pc2 ls st h g2) : V l M n0 s0 τ cvt pc ls ((.int x, a) :: st) h (if x < 0 then g1 else g2) := by
  obtain ⟨hd, rfl⟩ := hd
  exact v_if_lt hd ht kt kf
theorem zr_if_ge {x : Int32} {a t : Nat} {off : Int} {g1 g2 : Option α} (hd : zD M pc (.ifCond .ge off) 3 pc2) (ht : (pc : Int) + off = (t : Int)) (kt : V l M n0 s0 τ cvt t ls st h g1) (kf : V l M n0 s0 τ cvt pc2 ls st h g2) : V l M n0 s0 τ cvt pc ls ((.int x, a) :: st) h (if 0 ≤ x then g1 else g2) := by
  obtain ⟨hd, rfl⟩ := hd
  exact v_if_ge hd ht kt kf
theorem zr_if_gt {x : Int32} {a t : Nat} {off : Int} {g1 g2 : Option α} (hd : zD M pc (.ifCond .gt off) 3 pc2) (ht : (pc : Int) + off = (t : Int)) (kt : V l M n0 s0 τ cvt t ls st h g1) (kf : V l M n0 s0 τ cvt pc2 ls st h g2) : V l M n0 s0 τ cvt pc ls ((.int x, a) :: st) h (if 0 < x then g1 else g2) := by
  obtain ⟨hd, rfl⟩ := hd
  exact v_if_gt hd ht kt kf
theorem zr_if_le {x : Int32} {a t : Nat} {off : Int} {g1 g2 : Option α} (hd : zD M pc (.ifCond .le off) 3 pc2) (ht : (pc : Int) + off = (t : Int)) (kt : V l M n0 s0 τ cvt t ls st h g1) (kf : V l M n0 s0 τ cvt pc2 ls st h g2) : V l M n0 s0 τ cvt pc ls ((.int x, a) :: st) h (if x ≤ 0 then g1 else g2) := by
  obtain ⟨hd, rfl⟩ := hd
  exact v_if_le hd ht kt kf
theorem zr_istore_n {j : Fin 4} {i a : Nat} {x : Int32} (hd : zD M pc (.istore_n j) 1 pc2) (hi : (j : Nat) = i) (hn : i < mL M) (hs : zst1 (.int x, 0) i ls = ls2) (k : V l M n0 s0 τ cvt pc2 ls2 st h g) : V l M n0 s0 τ cvt pc ls ((.int x, a) :: st) h g := by
  obtain ⟨hd, rfl⟩ := hd
  exact v_istore_n hd hi hn hs k
theorem zr_istore {i a : Nat} {x : Int32} (hd : zD M pc (.istore i) 2 pc2) (hn : i < mL M) (hs : zst1 (.int x, 0) i ls = ls2) (k : V l M n0 s0 τ cvt pc2 ls2 st h g) : V l M n0 s0 τ cvt pc ls ((.int x, a) :: st) h g := by
  obtain ⟨hd, rfl⟩ := hd
  exact v_istore hd hn hs k
theorem zr_lstore_n {j : Fin 4} {i a : Nat} {x : Int64} (hd : zD M pc (.lstore_n j) 1 pc2) (hi : (j : Nat) = i) (hn : i + 1 < mL M) (hs : zst2 (.long x, 0) i ls = ls2) (k : V l M n0 s0 τ cvt pc2 ls2 st h g) : V l M n0 s0 τ cvt pc ls ((.long x, a) :: st) h g := by
  obtain ⟨hd, rfl⟩ := hd
  exact v_lstore_n hd hi hn hs k
theorem zr_lstore {i a : Nat} {x : Int64} (hd : zD M pc (.lstore i) 2 pc2) (hn : i + 1 < mL M) (hs : zst2 (.long x, 0) i ls = ls2) (k : V l M n0 s0 τ cvt pc2 ls2 st h g) : V l M n0 s0 τ cvt pc ls ((.long x, a) :: st) h g := by
  obtain ⟨hd, rfl⟩ := hd
  exact v_lstore hd hn hs k
theorem zr_astore_n {j : Fin 4} {i a : Nat} {r : Option Nat} (hd : zD M pc (.astore_n j) 1 pc2) (hi : (j : Nat) = i) (hn : i < mL M) (hs : zst1 (va_rf r, a) i ls = ls2) (k : V l M n0 s0 τ cvt pc2 ls2 st h g) : V l M n0 s0 τ cvt pc ls ((va_rf r, a) :: st) h g := by
  obtain ⟨hd, rfl⟩ := hd
  exact v_astore_n hd hi hn hs k
theorem zr_astore {i a : Nat} {r : Option Nat} (hd : zD M pc (.astore i) 2 pc2) (hn : i < mL M) (hs : zst1 (va_rf r, a) i ls = ls2) (k : V l M n0 s0 τ cvt pc2 ls2 st h g) : V l M n0 s0 τ cvt pc ls ((va_rf r, a) :: st) h g := by
  obtain ⟨hd, rfl⟩ := hd
  exact v_astore hd hn hs k
theorem zr_iinc {i a : Nat} {n : Int} {x y : Int32} (hd : zD M pc (.iinc i n) 3 pc2) (hl : ls[i]? = some (some (.int x, a))) (hn : i < mL M) (hy : Int32.ofInt n = y) (hs : zst1 (.int (x + y), 0) i ls = ls2) (k : V l M n0 s0 τ cvt pc2 ls2 st h g) : V l M n0 s0 τ cvt pc ls st h g := by
  obtain ⟨hd, rfl⟩ := hd
  exact v_iinc hd hl hn hy hs k
theorem zr_getI {i idx τ' k c : Nat} {fin : Bool} {dc : String} (hf : zFd (mO M) idx τ' k c fin dc) (hc : c ≠ 1 ∧ c < 3) (hd : zD M pc (.getfield idx) 3 pc2) (kk : V l M n0 s0 τ cvt pc2 ls ((.int (zI h i k), 0) :: st) h g) : V l M n0 s0 τ cvt pc ls ((.ref i, τ') :: st) h g := by
  obtain ⟨hd, rfl⟩ := hd
  exact v_getI hf hc hd kk
theorem zr_getJ {i idx τ' k c : Nat} {fin : Bool} {dc : String} (hf : zFd (mO M) idx τ' k c fin dc) (hc : c = 1) (hd : zD M pc (.getfield idx) 3 pc2) (kk : V l M n0 s0 τ cvt pc2 ls ((.long (zJ h i k), 0) :: st) h g) : V l M n0 s0 τ cvt pc ls ((.ref i, τ') :: st) h g := by
  obtain ⟨hd, rfl⟩ := hd
  exact v_getJ hf hc hd kk
theorem zr_getR {i idx τ' k c : Nat} {fin : Bool} {dc : String} (hf : zFd (mO M) idx τ' k c fin dc) (hc : 100 ≤ c) (hd : zD M pc (.getfield idx) 3 pc2) (kk : V l M n0 s0 τ cvt pc2 ls ((va_rf (zR h i k), c - 100) :: st) h g) : V l M n0 s0 τ cvt pc ls ((.ref i, τ') :: st) h g := by
  obtain ⟨hd, rfl⟩ := hd
  exact v_getR hf hc hd kk
theorem zr_putI {i idx τ' k c a : Nat} {fin : Bool} {dc : String} {x : Int32} (hf : zFd (mO M) idx τ' k c fin dc) (hc : c = 0) (hfin : fin = false ∨ (mN M = "<init>" ∧ dc = mO M)) (hd : zD M pc (.putfield idx) 3 pc2) (kk : V l M n0 s0 τ cvt pc2 ls st (zsI h i k x) g) : V l M n0 s0 τ cvt pc ls ((.int x, a) :: (.ref i, τ') :: st) h g := by
  obtain ⟨hd, rfl⟩ := hd
  exact v_putI hf hc hfin hd kk
theorem zr_putZ {i idx τ' k c a : Nat} {fin : Bool} {dc : String} {x : Int32} (hf : zFd (mO M) idx τ' k c fin dc) (hc : c = 2) (hx : x = 0 ∨ x = 1) (hfin : fin = false ∨ (mN M = "<init>" ∧ dc = mO M)) (hd : zD M pc (.putfield idx) 3 pc2) (kk : V l M n0 s0 τ cvt pc2 ls st (zsI h i k x) g) : V l M n0 s0 τ cvt pc ls ((.int x, a) :: (.ref i, τ') :: st) h g := by
  obtain ⟨hd, rfl⟩ := hd
  exact v_putZ hf hc hx hfin hd kk
theorem zr_putJ {i idx τ' k c a : Nat} {fin : Bool} {dc : String} {x : Int64} (hf : zFd (mO M) idx τ' k c fin dc) (hc : c = 1) (hfin : fin = false ∨ (mN M = "<init>" ∧ dc = mO M)) (hd : zD M pc (.putfield idx) 3 pc2) (kk : V l M n0 s0 τ cvt pc2 ls st (zsJ h i k x) g) : V l M n0 s0 τ cvt pc ls ((.long x, a) :: (.ref i, τ') :: st) h g := by
  obtain ⟨hd, rfl⟩ := hd
  exact v_putJ hf hc hfin hd kk
theorem zr_putR {i idx τ' k c a : Nat} {fin : Bool} {dc : String} {x : Option Nat} (hf : zFd (mO M) idx τ' k c fin dc) (hc : 100 ≤ c) (ha : ∀ t, zSub t a → zSub t (c - 100)) (hfin : fin = false ∨ (mN M = "<init>" ∧ dc = mO M)) (hd : zD M pc (.putfield idx) 3 pc2) (kk : V l M n0 s0 τ cvt pc2 ls st (zsR h i k x) g) : V l M n0 s0 τ cvt pc ls ((va_rf x, a) :: (.ref i, τ') :: st) h g := by
  obtain ⟨hd, rfl⟩ := hd
  exact v_putR hf hc ha hfin hd kk
theorem zr_iald {i a : Nat} {x : Int32} (hd : zD M pc (.iaload) 1 pc2) (kk : V l M n0 s0 τ cvt pc2 ls ((.int (zI h i (zx x)), 0) :: st) h g) : V l M n0 s0 τ cvt pc ls ((.int x, a) :: (.ref i, 20) :: st) h (zg (zin x (zL h i)) g) := by
  obtain ⟨hd, rfl⟩ := hd
  exact v_iald hd kk
theorem zr_lald {i a : Nat} {x : Int32} (hd : zD M pc (.laload) 1 pc2) (kk : V l M n0 s0 τ cvt pc2 ls ((.long (zJ h i (zx x)), 0) :: st) h g) : V l M n0 s0 τ cvt pc ls ((.int x, a) :: (.ref i, 21) :: st) h (zg (zin x (zL h i)) g) := by
  obtain ⟨hd, rfl⟩ := hd
  exact v_lald hd kk
theorem zr_aald {i a q t0 ct : Nat} {C : String} {x : Int32} (hq : zQa q t0 ct C) (hd : zD M pc (.aaload) 1 pc2) (kk : V l M n0 s0 τ cvt pc2 ls ((va_rf (zR h i (zx x)), ct) :: st) h g) : V l M n0 s0 τ cvt pc ls ((.int x, a) :: (.ref i, q) :: st) h (zg (zin x (zL h i)) g) := by
  obtain ⟨hd, rfl⟩ := hd
  exact v_aald hq hd kk
theorem zr_alen {i q : Nat} (hq : q = 20 ∨ q = 21 ∨ (22 ≤ q ∧ q ≤ 25)) (hd : zD M pc (.arraylength) 1 pc2) (kk : V l M n0 s0 τ cvt pc2 ls ((.int (Int32.ofNat (zL h i)), 0) :: st) h g) : V l M n0 s0 τ cvt pc ls ((.ref i, q) :: st) h g := by
  obtain ⟨hd, rfl⟩ := hd
  exact v_alen hq hd kk
theorem zr_iast {i a b : Nat} {x y : Int32} (hd : zD M pc (.iastore) 1 pc2) (kk : V l M n0 s0 τ cvt pc2 ls st (zsI h i (zx x) y) g) : V l M n0 s0 τ cvt pc ls ((.int y, b) :: (.int x, a) :: (.ref i, 20) :: st) h (zg (zin x (zL h i)) g) := by
  obtain ⟨hd, rfl⟩ := hd
  exact v_iast hd kk
theorem zr_last {i a b : Nat} {x : Int32} {y : Int64} (hd : zD M pc (.lastore) 1 pc2) (kk : V l M n0 s0 τ cvt pc2 ls st (zsJ h i (zx x) y) g) : V l M n0 s0 τ cvt pc ls ((.long y, b) :: (.int x, a) :: (.ref i, 21) :: st) h (zg (zin x (zL h i)) g) := by
  obtain ⟨hd, rfl⟩ := hd
  exact v_last hd kk
theorem zr_ifnull {r : Option Nat} {a t : Nat} {off : Int} {g1 g2 : Option α} (hd : zD M pc (.ifnull off) 3 pc2) (ht : (pc : Int) + off = (t : Int)) (kt : V l M n0 s0 τ cvt t ls st h g1) (kf : V l M n0 s0 τ cvt pc2 ls st h g2) : V l M n0 s0 τ cvt pc ls ((va_rf r, a) :: st) h (if r.isNone = true then g1 else g2) := by
  obtain ⟨hd, rfl⟩ := hd
  exact v_ifnull hd ht kt kf
theorem zr_ifnonnull {r : Option Nat} {a t : Nat} {off : Int} {g1 g2 : Option α} (hd : zD M pc (.ifnonnull off) 3 pc2) (ht : (pc : Int) + off = (t : Int)) (kt : V l M n0 s0 τ cvt t ls st h g1) (kf : V l M n0 s0 τ cvt pc2 ls st h g2) : V l M n0 s0 τ cvt pc ls ((va_rf r, a) :: st) h (if r.isNone = true then g2 else g1) := by
  obtain ⟨hd, rfl⟩ := hd
  exact v_ifnonnull hd ht kt kf
theorem zr_new {t idx : Nat} {C : String} {T : u_T} {N : Nat} {ty : Nat → FieldType} (ci : zCi t C T N ty) (hcl : Cond.classLink (mO M) idx C ∈ zT) (hins : Cond.instantiable C N ∈ zT) (hini : Cond.initialized C ∈ zT) (hd : zD M pc (.new idx) 3 pc2) (kk : V l M n0 s0 τ cvt pc2 ls ((.ref (zN h), t) :: st) (zA h t N) g) : V l M n0 s0 τ cvt pc ls st h g := by
  obtain ⟨hd, rfl⟩ := hd
  exact v_new ci hcl hins hini hd kk
theorem zr_newi {x : Int32} {a : Nat} (hw : Cond.arrayClass .int ∈ zT) (hd : zD M pc (.newarray .int) 2 pc2) (kk : V l M n0 s0 τ cvt pc2 ls ((.ref (zN h), 20) :: st) (zA h 20 (zx x)) g) : V l M n0 s0 τ cvt pc ls ((.int x, a) :: st) h (zg (zok x) g) := by
  obtain ⟨hd, rfl⟩ := hd
  exact v_newi hw hd kk
theorem zr_newj {x : Int32} {a : Nat} (hw : Cond.arrayClass .long ∈ zT) (hd : zD M pc (.newarray .long) 2 pc2) (kk : V l M n0 s0 τ cvt pc2 ls ((.ref (zN h), 21) :: st) (zA h 21 (zx x)) g) : V l M n0 s0 τ cvt pc ls ((.int x, a) :: st) h (zg (zok x) g) := by
  obtain ⟨hd, rfl⟩ := hd
  exact v_newj hw hd kk
theorem zr_newq {q t0 ct idx a : Nat} {C : String} {x : Int32} (hq : zQa q t0 ct C) (hcl : Cond.classLink (mO M) idx C ∈ zT) (hd : zD M pc (.anewarray idx) 3 pc2) (kk : V l M n0 s0 τ cvt pc2 ls ((.ref (zN h), q) :: st) (zA h q (zx x)) g) : V l M n0 s0 τ cvt pc ls ((.int x, a) :: st) h (zg (zok x) g) := by
  obtain ⟨hd, rfl⟩ := hd
  exact v_newq hq hcl hd kk
theorem zr_aast {i a b q t0 ct : Nat} {C : String} {x : Int32} {r : Option Nat} (hq : zQa q t0 ct C) (hb : ∀ t, zSub t b → zSub t ct) (h13 : ct < 13) (hd : zD M pc (.aastore) 1 pc2) (kk : V l M n0 s0 τ cvt pc2 ls st (zsR h i (zx x) r) g) : V l M n0 s0 τ cvt pc ls ((va_rf r, b) :: (.int x, a) :: (.ref i, q) :: st) h (zg (zin x (zL h i)) g) := by
  obtain ⟨hd, rfl⟩ := hd
  exact v_aast hq hb h13 hd kk
theorem zr_iret {x : Int32} {a : Nat} {v : α} (hc : cvt v = (some (.int x), h)) (hr : mR M = some .int) (hd : zD M pc (.ireturn) 1 pc2) : V l M n0 s0 τ cvt pc ls [(.int x, a)] h (some v) := by
  obtain ⟨hd, rfl⟩ := hd
  exact v_iret hc hr hd
theorem zr_zret {x : Int32} {a : Nat} {v : α} (hc : cvt v = (some (.int x), h)) (hx : x = 0 ∨ x = 1) (hr : mR M = some .boolean) (hd : zD M pc (.ireturn) 1 pc2) : V l M n0 s0 τ cvt pc ls [(.int x, a)] h (some v) := by
  obtain ⟨hd, rfl⟩ := hd
  exact v_zret hc hx hr hd
theorem zr_lret {x : Int64} {a : Nat} {v : α} (hc : cvt v = (some (.long x), h)) (hr : mR M = some .long) (hd : zD M pc (.lreturn) 1 pc2) : V l M n0 s0 τ cvt pc ls [(.long x, a)] h (some v) := by
  obtain ⟨hd, rfl⟩ := hd
  exact v_lret hc hr hd
theorem zr_vret {v : α} (hc : cvt v = (none, h)) (hr : mR M = none) (hd : zD M pc (.return_) 1 pc2) : V l M n0 s0 τ cvt pc ls [] h (some v) := by
  obtain ⟨hd, rfl⟩ := hd
  exact v_vret hc hr hd
theorem zr_aret {r : Option Nat} {v : α} {rt : FieldType} (hc : cvt v = (some (va_rf r), h)) (hr : mR M = some rt) (hrt : (∃ n, rt = .object n) ∨ ∃ t, rt = .array t) (hd : zD M pc (.areturn) 1 pc2) : V l M n0 s0 τ cvt pc ls [(va_rf r, τ)] h (some v) := by
  obtain ⟨hd, rfl⟩ := hd
  exact v_aret hc hr hrt hd
theorem zr_null2 {r : Option Nat} {a t : Nat} {off : Int} {g1 : Option α} {f : Nat → Option α} (hd : zD M pc (.ifnull off) 3 pc2) (ht : (pc : Int) + off = (t : Int)) (kn : r = none → V l M n0 s0 τ cvt t ls st h g1) (ks : ∀ i, r = some i → V l M n0 s0 τ cvt pc2 ls st h (f i)) : V l M n0 s0 τ cvt pc ls ((va_rf r, a) :: st) h (zcs r g1 f) := by
  obtain ⟨hd, rfl⟩ := hd
  exact v_null' hd ht kn ks
theorem zr_nonnull2 {r : Option Nat} {a t : Nat} {off : Int} {g1 : Option α} {f : Nat → Option α} (hd : zD M pc (.ifnonnull off) 3 pc2) (ht : (pc : Int) + off = (t : Int)) (kn : r = none → V l M n0 s0 τ cvt pc2 ls st h g1) (ks : ∀ i, r = some i → V l M n0 s0 τ cvt t ls st h (f i)) : V l M n0 s0 τ cvt pc ls ((va_rf r, a) :: st) h (zcs r g1 f) := by
  obtain ⟨hd, rfl⟩ := hd
  exact v_nonnull' hd ht kn ks
theorem zr_invV_I {g1 : Option (Int32 × Zh)} {f : Int32 → Zh → Option α} {y : MethodName} {N : Zm} {τr i idx n : Nat} {as : List (Value × Nat)} {C : String} {T : u_T} {Nf : Nat} (hc : Zc l y N 0 h ((.ref i, τr) :: as) (g1.map zoI)) (hs : ((Value.ref i, τr) :: as).reverse ++ st = st0) (hcl : zCl[τr]? = some (C, T, Nf)) (hτ : τr ≠ 4 ∧ τr ≠ 10 ∧ τr < 13) (hcd : zCd y N n) (hyc : y.cls = C) (hw : Cond.methodLink (mO M) idx y ∈ zT ∧ Cond.instanceMethod y ∈ zT ∧ Cond.selects C y y ∈ zT ∧ Cond.initialized C ∈ zT) (hrm : zRm M N) (hn : as.length = n) (hl : st.length ≤ 4) (hd : zD M pc (.invokevirtual idx) 3 pc2) (k : ∀ (x : Int32) (h1 : Zh), V l M n0 s0 τ cvt pc2 ls ((.int x, 0) :: st) h1 (f x h1)) : V l M n0 s0 τ cvt pc ls st0 h (zbI g1 f) := by
  obtain ⟨hd, rfl⟩ := hd
  exact v_invV (cv1 := zoI) hc hs hcl hτ hcd hyc hw hrm hn hl hd (fun b => k b.1 b.2)
theorem zr_invV_J {g1 : Option (Int64 × Zh)} {f : Int64 → Zh → Option α} {y : MethodName} {N : Zm} {τr i idx n : Nat} {as : List (Value × Nat)} {C : String} {T : u_T} {Nf : Nat} (hc : Zc l y N 0 h ((.ref i, τr) :: as) (g1.map zoJ)) (hs : ((Value.ref i, τr) :: as).reverse ++ st = st0) (hcl : zCl[τr]? = some (C, T, Nf)) (hτ : τr ≠ 4 ∧ τr ≠ 10 ∧ τr < 13) (hcd : zCd y N n) (hyc : y.cls = C) (hw : Cond.methodLink (mO M) idx y ∈ zT ∧ Cond.instanceMethod y ∈ zT ∧ Cond.selects C y y ∈ zT ∧ Cond.initialized C ∈ zT) (hrm : zRm M N) (hn : as.length = n) (hl : st.length ≤ 4) (hd : zD M pc (.invokevirtual idx) 3 pc2) (k : ∀ (x : Int64) (h1 : Zh), V l M n0 s0 τ cvt pc2 ls ((.long x, 0) :: st) h1 (f x h1)) : V l M n0 s0 τ cvt pc ls st0 h (zbJ g1 f) := by
  obtain ⟨hd, rfl⟩ := hd
  exact v_invV (cv1 := zoJ) hc hs hcl hτ hcd hyc hw hrm hn hl hd (fun b => k b.1 b.2)
theorem zr_invV_R {g1 : Option (Option Nat × Zh)} {f : Option Nat → Zh → Option α} {y : MethodName} {N : Zm} {τ1 τr i idx n : Nat} {as : List (Value × Nat)} {C : String} {T : u_T} {Nf : Nat} (hc : Zc l y N τ1 h ((.ref i, τr) :: as) (g1.map zoR)) (hs : ((Value.ref i, τr) :: as).reverse ++ st = st0) (hcl : zCl[τr]? = some (C, T, Nf)) (hτ : τr ≠ 4 ∧ τr ≠ 10 ∧ τr < 13) (hcd : zCd y N n) (hyc : y.cls = C) (hw : Cond.methodLink (mO M) idx y ∈ zT ∧ Cond.instanceMethod y ∈ zT ∧ Cond.selects C y y ∈ zT ∧ Cond.initialized C ∈ zT) (hrm : zRm M N) (hn : as.length = n) (hl : st.length ≤ 4) (hd : zD M pc (.invokevirtual idx) 3 pc2) (k : ∀ (x : Option Nat) (h1 : Zh), V l M n0 s0 τ cvt pc2 ls ((va_rf x, τ1) :: st) h1 (f x h1)) : V l M n0 s0 τ cvt pc ls st0 h (zbR g1 f) := by
  obtain ⟨hd, rfl⟩ := hd
  exact v_invV (cv1 := zoR) hc hs hcl hτ hcd hyc hw hrm hn hl hd (fun b => k b.1 b.2)
theorem zr_invV_V {g1 : Option (Zh)} {f : Zh → Option α} {y : MethodName} {N : Zm} {τr i idx n : Nat} {as : List (Value × Nat)} {C : String} {T : u_T} {Nf : Nat} (hc : Zc l y N 0 h ((.ref i, τr) :: as) (g1.map zoV)) (hs : ((Value.ref i, τr) :: as).reverse ++ st = st0) (hcl : zCl[τr]? = some (C, T, Nf)) (hτ : τr ≠ 4 ∧ τr ≠ 10 ∧ τr < 13) (hcd : zCd y N n) (hyc : y.cls = C) (hw : Cond.methodLink (mO M) idx y ∈ zT ∧ Cond.instanceMethod y ∈ zT ∧ Cond.selects C y y ∈ zT ∧ Cond.initialized C ∈ zT) (hrm : zRm M N) (hn : as.length = n) (hl : st.length ≤ 4) (hd : zD M pc (.invokevirtual idx) 3 pc2) (k : ∀ (h1 : Zh), V l M n0 s0 τ cvt pc2 ls st h1 (f h1)) : V l M n0 s0 τ cvt pc ls st0 h (zbV g1 f) := by
  obtain ⟨hd, rfl⟩ := hd
  exact v_invV (cv1 := zoV) hc hs hcl hτ hcd hyc hw hrm hn hl hd (fun b => k b)
theorem zr_invV_i {g1 : Option (Int32)} {f : Int32 → Option α} {y : MethodName} {N : Zm} {τr i idx n : Nat} {as : List (Value × Nat)} {C : String} {T : u_T} {Nf : Nat} (hc : Zc l y N 0 h ((.ref i, τr) :: as) (g1.map (zoi h))) (hs : ((Value.ref i, τr) :: as).reverse ++ st = st0) (hcl : zCl[τr]? = some (C, T, Nf)) (hτ : τr ≠ 4 ∧ τr ≠ 10 ∧ τr < 13) (hcd : zCd y N n) (hyc : y.cls = C) (hw : Cond.methodLink (mO M) idx y ∈ zT ∧ Cond.instanceMethod y ∈ zT ∧ Cond.selects C y y ∈ zT ∧ Cond.initialized C ∈ zT) (hrm : zRm M N) (hn : as.length = n) (hl : st.length ≤ 4) (hd : zD M pc (.invokevirtual idx) 3 pc2) (k : ∀ (x : Int32), V l M n0 s0 τ cvt pc2 ls ((.int x, 0) :: st) h (f x)) : V l M n0 s0 τ cvt pc ls st0 h (zbi g1 f) := by
  obtain ⟨hd, rfl⟩ := hd
  exact v_invV (cv1 := (zoi h)) hc hs hcl hτ hcd hyc hw hrm hn hl hd (fun b => k b)
theorem zr_invV_j {g1 : Option (Int64)} {f : Int64 → Option α} {y : MethodName} {N : Zm} {τr i idx n : Nat} {as : List (Value × Nat)} {C : String} {T : u_T} {Nf : Nat} (hc : Zc l y N 0 h ((.ref i, τr) :: as) (g1.map (zoj h))) (hs : ((Value.ref i, τr) :: as).reverse ++ st = st0) (hcl : zCl[τr]? = some (C, T, Nf)) (hτ : τr ≠ 4 ∧ τr ≠ 10 ∧ τr < 13) (hcd : zCd y N n) (hyc : y.cls = C) (hw : Cond.methodLink (mO M) idx y ∈ zT ∧ Cond.instanceMethod y ∈ zT ∧ Cond.selects C y y ∈ zT ∧ Cond.initialized C ∈ zT) (hrm : zRm M N) (hn : as.length = n) (hl : st.length ≤ 4) (hd : zD M pc (.invokevirtual idx) 3 pc2) (k : ∀ (x : Int64), V l M n0 s0 τ cvt pc2 ls ((.long x, 0) :: st) h (f x)) : V l M n0 s0 τ cvt pc ls st0 h (zbj g1 f) := by
  obtain ⟨hd, rfl⟩ := hd
  exact v_invV (cv1 := (zoj h)) hc hs hcl hτ hcd hyc hw hrm hn hl hd (fun b => k b)
theorem zr_invV_r {g1 : Option (Option Nat)} {f : Option Nat → Option α} {y : MethodName} {N : Zm} {τ1 τr i idx n : Nat} {as : List (Value × Nat)} {C : String} {T : u_T} {Nf : Nat} (hc : Zc l y N τ1 h ((.ref i, τr) :: as) (g1.map (zor h))) (hs : ((Value.ref i, τr) :: as).reverse ++ st = st0) (hcl : zCl[τr]? = some (C, T, Nf)) (hτ : τr ≠ 4 ∧ τr ≠ 10 ∧ τr < 13) (hcd : zCd y N n) (hyc : y.cls = C) (hw : Cond.methodLink (mO M) idx y ∈ zT ∧ Cond.instanceMethod y ∈ zT ∧ Cond.selects C y y ∈ zT ∧ Cond.initialized C ∈ zT) (hrm : zRm M N) (hn : as.length = n) (hl : st.length ≤ 4) (hd : zD M pc (.invokevirtual idx) 3 pc2) (k : ∀ (x : Option Nat), V l M n0 s0 τ cvt pc2 ls ((va_rf x, τ1) :: st) h (f x)) : V l M n0 s0 τ cvt pc ls st0 h (zbr g1 f) := by
  obtain ⟨hd, rfl⟩ := hd
  exact v_invV (cv1 := (zor h)) hc hs hcl hτ hcd hyc hw hrm hn hl hd (fun b => k b)
theorem zr_invV_v {g1 : Option (Unit)} {f : Unit → Option α} {y : MethodName} {N : Zm} {τr i idx n : Nat} {as : List (Value × Nat)} {C : String} {T : u_T} {Nf : Nat} (hc : Zc l y N 0 h ((.ref i, τr) :: as) (g1.map (zov h))) (hs : ((Value.ref i, τr) :: as).reverse ++ st = st0) (hcl : zCl[τr]? = some (C, T, Nf)) (hτ : τr ≠ 4 ∧ τr ≠ 10 ∧ τr < 13) (hcd : zCd y N n) (hyc : y.cls = C) (hw : Cond.methodLink (mO M) idx y ∈ zT ∧ Cond.instanceMethod y ∈ zT ∧ Cond.selects C y y ∈ zT ∧ Cond.initialized C ∈ zT) (hrm : zRm M N) (hn : as.length = n) (hl : st.length ≤ 4) (hd : zD M pc (.invokevirtual idx) 3 pc2) (k : ∀ (x : Unit), V l M n0 s0 τ cvt pc2 ls st h (f x)) : V l M n0 s0 τ cvt pc ls st0 h (zbv g1 f) := by
  obtain ⟨hd, rfl⟩ := hd
  exact v_invV (cv1 := (zov h)) hc hs hcl hτ hcd hyc hw hrm hn hl hd (fun b => k b)
theorem zr_invS_I {g1 : Option (Int32 × Zh)} {f : Int32 → Zh → Option α} {y : MethodName} {N : Zm} {idx n : Nat} {as : List (Value × Nat)} (hc : Zc l y N 0 h as (g1.map zoI)) (hs : as.reverse ++ st = st0) (hcd : zCd y N n) (hw : Cond.methodLink (mO M) idx y ∈ zT ∧ Cond.static y ∈ zT ∧ Cond.initialized y.cls ∈ zT) (hrm : zRm M N) (hn : as.length = n) (hl : st.length ≤ 4) (hd : zD M pc (.invokestatic idx) 3 pc2) (k : ∀ (x : Int32) (h1 : Zh), V l M n0 s0 τ cvt pc2 ls ((.int x, 0) :: st) h1 (f x h1)) : V l M n0 s0 τ cvt pc ls st0 h (zbI g1 f) := by
  obtain ⟨hd, rfl⟩ := hd
  exact v_invS (cv1 := zoI) hc hs hcd hw hrm hn hl hd (fun b => k b.1 b.2)
theorem zr_invS_J {g1 : Option (Int64 × Zh)} {f : Int64 → Zh → Option α} {y : MethodName} {N : Zm} {idx n : Nat} {as : List (Value × Nat)} (hc : Zc l y N 0 h as (g1.map zoJ)) (hs : as.reverse ++ st = st0) (hcd : zCd y N n) (hw : Cond.methodLink (mO M) idx y ∈ zT ∧ Cond.static y ∈ zT ∧ Cond.initialized y.cls ∈ zT) (hrm : zRm M N) (hn : as.length = n) (hl : st.length ≤ 4) (hd : zD M pc (.invokestatic idx) 3 pc2) (k : ∀ (x : Int64) (h1 : Zh), V l M n0 s0 τ cvt pc2 ls ((.long x, 0) :: st) h1 (f x h1)) : V l M n0 s0 τ cvt pc ls st0 h (zbJ g1 f) := by
  obtain ⟨hd, rfl⟩ := hd
  exact v_invS (cv1 := zoJ) hc hs hcd hw hrm hn hl hd (fun b => k b.1 b.2)
theorem zr_invS_R {g1 : Option (Option Nat × Zh)} {f : Option Nat → Zh → Option α} {y : MethodName} {N : Zm} {τ1 idx n : Nat} {as : List (Value × Nat)} (hc : Zc l y N τ1 h as (g1.map zoR)) (hs : as.reverse ++ st = st0) (hcd : zCd y N n) (hw : Cond.methodLink (mO M) idx y ∈ zT ∧ Cond.static y ∈ zT ∧ Cond.initialized y.cls ∈ zT) (hrm : zRm M N) (hn : as.length = n) (hl : st.length ≤ 4) (hd : zD M pc (.invokestatic idx) 3 pc2) (k : ∀ (x : Option Nat) (h1 : Zh), V l M n0 s0 τ cvt pc2 ls ((va_rf x, τ1) :: st) h1 (f x h1)) : V l M n0 s0 τ cvt pc ls st0 h (zbR g1 f) := by
  obtain ⟨hd, rfl⟩ := hd
  exact v_invS (cv1 := zoR) hc hs hcd hw hrm hn hl hd (fun b => k b.1 b.2)
theorem zr_invS_V {g1 : Option (Zh)} {f : Zh → Option α} {y : MethodName} {N : Zm} {idx n : Nat} {as : List (Value × Nat)} (hc : Zc l y N 0 h as (g1.map zoV)) (hs : as.reverse ++ st = st0) (hcd : zCd y N n) (hw : Cond.methodLink (mO M) idx y ∈ zT ∧ Cond.static y ∈ zT ∧ Cond.initialized y.cls ∈ zT) (hrm : zRm M N) (hn : as.length = n) (hl : st.length ≤ 4) (hd : zD M pc (.invokestatic idx) 3 pc2) (k : ∀ (h1 : Zh), V l M n0 s0 τ cvt pc2 ls st h1 (f h1)) : V l M n0 s0 τ cvt pc ls st0 h (zbV g1 f) := by
  obtain ⟨hd, rfl⟩ := hd
  exact v_invS (cv1 := zoV) hc hs hcd hw hrm hn hl hd (fun b => k b)
theorem zr_invS_i {g1 : Option (Int32)} {f : Int32 → Option α} {y : MethodName} {N : Zm} {idx n : Nat} {as : List (Value × Nat)} (hc : Zc l y N 0 h as (g1.map (zoi h))) (hs : as.reverse ++ st = st0) (hcd : zCd y N n) (hw : Cond.methodLink (mO M) idx y ∈ zT ∧ Cond.static y ∈ zT ∧ Cond.initialized y.cls ∈ zT) (hrm : zRm M N) (hn : as.length = n) (hl : st.length ≤ 4) (hd : zD M pc (.invokestatic idx) 3 pc2) (k : ∀ (x : Int32), V l M n0 s0 τ cvt pc2 ls ((.int x, 0) :: st) h (f x)) : V l M n0 s0 τ cvt pc ls st0 h (zbi g1 f) := by
  obtain ⟨hd, rfl⟩ := hd
  exact v_invS (cv1 := (zoi h)) hc hs hcd hw hrm hn hl hd (fun b => k b)
theorem zr_invS_j {g1 : Option (Int64)} {f : Int64 → Option α} {y : MethodName} {N : Zm} {idx n : Nat} {as : List (Value × Nat)} (hc : Zc l y N 0 h as (g1.map (zoj h))) (hs : as.reverse ++ st = st0) (hcd : zCd y N n) (hw : Cond.methodLink (mO M) idx y ∈ zT ∧ Cond.static y ∈ zT ∧ Cond.initialized y.cls ∈ zT) (hrm : zRm M N) (hn : as.length = n) (hl : st.length ≤ 4) (hd : zD M pc (.invokestatic idx) 3 pc2) (k : ∀ (x : Int64), V l M n0 s0 τ cvt pc2 ls ((.long x, 0) :: st) h (f x)) : V l M n0 s0 τ cvt pc ls st0 h (zbj g1 f) := by
  obtain ⟨hd, rfl⟩ := hd
  exact v_invS (cv1 := (zoj h)) hc hs hcd hw hrm hn hl hd (fun b => k b)
theorem zr_invS_r {g1 : Option (Option Nat)} {f : Option Nat → Option α} {y : MethodName} {N : Zm} {τ1 idx n : Nat} {as : List (Value × Nat)} (hc : Zc l y N τ1 h as (g1.map (zor h))) (hs : as.reverse ++ st = st0) (hcd : zCd y N n) (hw : Cond.methodLink (mO M) idx y ∈ zT ∧ Cond.static y ∈ zT ∧ Cond.initialized y.cls ∈ zT) (hrm : zRm M N) (hn : as.length = n) (hl : st.length ≤ 4) (hd : zD M pc (.invokestatic idx) 3 pc2) (k : ∀ (x : Option Nat), V l M n0 s0 τ cvt pc2 ls ((va_rf x, τ1) :: st) h (f x)) : V l M n0 s0 τ cvt pc ls st0 h (zbr g1 f) := by
  obtain ⟨hd, rfl⟩ := hd
  exact v_invS (cv1 := (zor h)) hc hs hcd hw hrm hn hl hd (fun b => k b)
theorem zr_invS_v {g1 : Option (Unit)} {f : Unit → Option α} {y : MethodName} {N : Zm} {idx n : Nat} {as : List (Value × Nat)} (hc : Zc l y N 0 h as (g1.map (zov h))) (hs : as.reverse ++ st = st0) (hcd : zCd y N n) (hw : Cond.methodLink (mO M) idx y ∈ zT ∧ Cond.static y ∈ zT ∧ Cond.initialized y.cls ∈ zT) (hrm : zRm M N) (hn : as.length = n) (hl : st.length ≤ 4) (hd : zD M pc (.invokestatic idx) 3 pc2) (k : ∀ (x : Unit), V l M n0 s0 τ cvt pc2 ls st h (f x)) : V l M n0 s0 τ cvt pc ls st0 h (zbv g1 f) := by
  obtain ⟨hd, rfl⟩ := hd
  exact v_invS (cv1 := (zov h)) hc hs hcd hw hrm hn hl hd (fun b => k b)
theorem zr_invI_I {g1 : Option (Int32 × Zh)} {f : Int32 → Zh → Option α} {y : MethodName} {N : Zm} {τr i idx n : Nat} {as : List (Value × Nat)} (hc : Zc l y N 0 h ((.ref i, τr) :: as) (g1.map zoI)) (hs : ((Value.ref i, τr) :: as).reverse ++ st = st0) (hcd : zCd y N n) (hyn : y.name = "<init>") (hrn : mR N = none) (hw : Cond.methodLink (mO M) idx y ∈ zT ∧ Cond.instanceMethod y ∈ zT ∧ Cond.initialized y.cls ∈ zT) (hrm : zRm M N) (hn : as.length = n) (hl : st.length ≤ 4) (hd : zD M pc (.invokespecial idx) 3 pc2) (k : ∀ (x : Int32) (h1 : Zh), V l M n0 s0 τ cvt pc2 ls ((.int x, 0) :: st) h1 (f x h1)) : V l M n0 s0 τ cvt pc ls st0 h (zbI g1 f) := by
  obtain ⟨hd, rfl⟩ := hd
  exact v_invI (cv1 := zoI) hc hs hcd hyn hrn hw hrm hn hl hd (fun b => k b.1 b.2)
theorem zr_invI_J {g1 : Option (Int64 × Zh)} {f : Int64 → Zh → Option α} {y : MethodName} {N : Zm} {τr i idx n : Nat} {as : List (Value × Nat)} (hc : Zc l y N 0 h ((.ref i, τr) :: as) (g1.map zoJ)) (hs : ((Value.ref i, τr) :: as).reverse ++ st = st0) (hcd : zCd y N n) (hyn : y.name = "<init>") (hrn : mR N = none) (hw : Cond.methodLink (mO M) idx y ∈ zT ∧ Cond.instanceMethod y ∈ zT ∧ Cond.initialized y.cls ∈ zT) (hrm : zRm M N) (hn : as.length = n) (hl : st.length ≤ 4) (hd : zD M pc (.invokespecial idx) 3 pc2) (k : ∀ (x : Int64) (h1 : Zh), V l M n0 s0 τ cvt pc2 ls ((.long x, 0) :: st) h1 (f x h1)) : V l M n0 s0 τ cvt pc ls st0 h (zbJ g1 f) := by
  obtain ⟨hd, rfl⟩ := hd
  exact v_invI (cv1 := zoJ) hc hs hcd hyn hrn hw hrm hn hl hd (fun b => k b.1 b.2)
theorem zr_invI_R {g1 : Option (Option Nat × Zh)} {f : Option Nat → Zh → Option α} {y : MethodName} {N : Zm} {τ1 τr i idx n : Nat} {as : List (Value × Nat)} (hc : Zc l y N τ1 h ((.ref i, τr) :: as) (g1.map zoR)) (hs : ((Value.ref i, τr) :: as).reverse ++ st = st0) (hcd : zCd y N n) (hyn : y.name = "<init>") (hrn : mR N = none) (hw : Cond.methodLink (mO M) idx y ∈ zT ∧ Cond.instanceMethod y ∈ zT ∧ Cond.initialized y.cls ∈ zT) (hrm : zRm M N) (hn : as.length = n) (hl : st.length ≤ 4) (hd : zD M pc (.invokespecial idx) 3 pc2) (k : ∀ (x : Option Nat) (h1 : Zh), V l M n0 s0 τ cvt pc2 ls ((va_rf x, τ1) :: st) h1 (f x h1)) : V l M n0 s0 τ cvt pc ls st0 h (zbR g1 f) := by
  obtain ⟨hd, rfl⟩ := hd
  exact v_invI (cv1 := zoR) hc hs hcd hyn hrn hw hrm hn hl hd (fun b => k b.1 b.2)
theorem zr_invI_V {g1 : Option (Zh)} {f : Zh → Option α} {y : MethodName} {N : Zm} {τr i idx n : Nat} {as : List (Value × Nat)} (hc : Zc l y N 0 h ((.ref i, τr) :: as) (g1.map zoV)) (hs : ((Value.ref i, τr) :: as).reverse ++ st = st0) (hcd : zCd y N n) (hyn : y.name = "<init>") (hrn : mR N = none) (hw : Cond.methodLink (mO M) idx y ∈ zT ∧ Cond.instanceMethod y ∈ zT ∧ Cond.initialized y.cls ∈ zT) (hrm : zRm M N) (hn : as.length = n) (hl : st.length ≤ 4) (hd : zD M pc (.invokespecial idx) 3 pc2) (k : ∀ (h1 : Zh), V l M n0 s0 τ cvt pc2 ls st h1 (f h1)) : V l M n0 s0 τ cvt pc ls st0 h (zbV g1 f) := by
  obtain ⟨hd, rfl⟩ := hd
  exact v_invI (cv1 := zoV) hc hs hcd hyn hrn hw hrm hn hl hd (fun b => k b)
theorem zr_invI_i {g1 : Option (Int32)} {f : Int32 → Option α} {y : MethodName} {N : Zm} {τr i idx n : Nat} {as : List (Value × Nat)} (hc : Zc l y N 0 h ((.ref i, τr) :: as) (g1.map (zoi h))) (hs : ((Value.ref i, τr) :: as).reverse ++ st = st0) (hcd : zCd y N n) (hyn : y.name = "<init>") (hrn : mR N = none) (hw : Cond.methodLink (mO M) idx y ∈ zT ∧ Cond.instanceMethod y ∈ zT ∧ Cond.initialized y.cls ∈ zT) (hrm : zRm M N) (hn : as.length = n) (hl : st.length ≤ 4) (hd : zD M pc (.invokespecial idx) 3 pc2) (k : ∀ (x : Int32), V l M n0 s0 τ cvt pc2 ls ((.int x, 0) :: st) h (f x)) : V l M n0 s0 τ cvt pc ls st0 h (zbi g1 f) := by
  obtain ⟨hd, rfl⟩ := hd
  exact v_invI (cv1 := (zoi h)) hc hs hcd hyn hrn hw hrm hn hl hd (fun b => k b)
theorem zr_invI_j {g1 : Option (Int64)} {f : Int64 → Option α} {y : MethodName} {N : Zm} {τr i idx n : Nat} {as : List (Value × Nat)} (hc : Zc l y N 0 h ((.ref i, τr) :: as) (g1.map (zoj h))) (hs : ((Value.ref i, τr) :: as).reverse ++ st = st0) (hcd : zCd y N n) (hyn : y.name = "<init>") (hrn : mR N = none) (hw : Cond.methodLink (mO M) idx y ∈ zT ∧ Cond.instanceMethod y ∈ zT ∧ Cond.initialized y.cls ∈ zT) (hrm : zRm M N) (hn : as.length = n) (hl : st.length ≤ 4) (hd : zD M pc (.invokespecial idx) 3 pc2) (k : ∀ (x : Int64), V l M n0 s0 τ cvt pc2 ls ((.long x, 0) :: st) h (f x)) : V l M n0 s0 τ cvt pc ls st0 h (zbj g1 f) := by
  obtain ⟨hd, rfl⟩ := hd
  exact v_invI (cv1 := (zoj h)) hc hs hcd hyn hrn hw hrm hn hl hd (fun b => k b)
theorem zr_invI_r {g1 : Option (Option Nat)} {f : Option Nat → Option α} {y : MethodName} {N : Zm} {τ1 τr i idx n : Nat} {as : List (Value × Nat)} (hc : Zc l y N τ1 h ((.ref i, τr) :: as) (g1.map (zor h))) (hs : ((Value.ref i, τr) :: as).reverse ++ st = st0) (hcd : zCd y N n) (hyn : y.name = "<init>") (hrn : mR N = none) (hw : Cond.methodLink (mO M) idx y ∈ zT ∧ Cond.instanceMethod y ∈ zT ∧ Cond.initialized y.cls ∈ zT) (hrm : zRm M N) (hn : as.length = n) (hl : st.length ≤ 4) (hd : zD M pc (.invokespecial idx) 3 pc2) (k : ∀ (x : Option Nat), V l M n0 s0 τ cvt pc2 ls ((va_rf x, τ1) :: st) h (f x)) : V l M n0 s0 τ cvt pc ls st0 h (zbr g1 f) := by
  obtain ⟨hd, rfl⟩ := hd
  exact v_invI (cv1 := (zor h)) hc hs hcd hyn hrn hw hrm hn hl hd (fun b => k b)
theorem zr_invI_v {g1 : Option (Unit)} {f : Unit → Option α} {y : MethodName} {N : Zm} {τr i idx n : Nat} {as : List (Value × Nat)} (hc : Zc l y N 0 h ((.ref i, τr) :: as) (g1.map (zov h))) (hs : ((Value.ref i, τr) :: as).reverse ++ st = st0) (hcd : zCd y N n) (hyn : y.name = "<init>") (hrn : mR N = none) (hw : Cond.methodLink (mO M) idx y ∈ zT ∧ Cond.instanceMethod y ∈ zT ∧ Cond.initialized y.cls ∈ zT) (hrm : zRm M N) (hn : as.length = n) (hl : st.length ≤ 4) (hd : zD M pc (.invokespecial idx) 3 pc2) (k : ∀ (x : Unit), V l M n0 s0 τ cvt pc2 ls st h (f x)) : V l M n0 s0 τ cvt pc ls st0 h (zbv g1 f) := by
  obtain ⟨hd, rfl⟩ := hd
  exact v_invI (cv1 := (zov h)) hc hs hcd hyn hrn hw hrm hn hl hd (fun b => k b)
theorem zr_invN_I {g1 : Option (Int32 × Zh)} {f : Int32 → Zh → Option α} {y : MethodName} {N : Zm} {τr i idx n : Nat} {as : List (Value × Nat)} {host : String} (hc : Zc l y N 0 h ((.ref i, τr) :: as) (g1.map zoI)) (hs : ((Value.ref i, τr) :: as).reverse ++ st = st0) (hcd : zCd y N n) (hyn : y.name = "<init>") (hrn : mR N = none) (hm : (mO M, idx, y, host) ∈ zMn) (hw : Cond.instanceMethod y ∈ zT ∧ Cond.initialized y.cls ∈ zT) (hrm : zRm M N) (hn : as.length = n) (hl : st.length ≤ 4) (hd : zD M pc (.invokespecial idx) 3 pc2) (k : ∀ (x : Int32) (h1 : Zh), V l M n0 s0 τ cvt pc2 ls ((.int x, 0) :: st) h1 (f x h1)) : V l M n0 s0 τ cvt pc ls st0 h (zbI g1 f) := by
  obtain ⟨hd, rfl⟩ := hd
  exact v_invN (cv1 := zoI) hc hs hcd hyn hrn hm hw hrm hn hl hd (fun b => k b.1 b.2)
theorem zr_invN_J {g1 : Option (Int64 × Zh)} {f : Int64 → Zh → Option α} {y : MethodName} {N : Zm} {τr i idx n : Nat} {as : List (Value × Nat)} {host : String} (hc : Zc l y N 0 h ((.ref i, τr) :: as) (g1.map zoJ)) (hs : ((Value.ref i, τr) :: as).reverse ++ st = st0) (hcd : zCd y N n) (hyn : y.name = "<init>") (hrn : mR N = none) (hm : (mO M, idx, y, host) ∈ zMn) (hw : Cond.instanceMethod y ∈ zT ∧ Cond.initialized y.cls ∈ zT) (hrm : zRm M N) (hn : as.length = n) (hl : st.length ≤ 4) (hd : zD M pc (.invokespecial idx) 3 pc2) (k : ∀ (x : Int64) (h1 : Zh), V l M n0 s0 τ cvt pc2 ls ((.long x, 0) :: st) h1 (f x h1)) : V l M n0 s0 τ cvt pc ls st0 h (zbJ g1 f) := by
  obtain ⟨hd, rfl⟩ := hd
  exact v_invN (cv1 := zoJ) hc hs hcd hyn hrn hm hw hrm hn hl hd (fun b => k b.1 b.2)
theorem zr_invN_R {g1 : Option (Option Nat × Zh)} {f : Option Nat → Zh → Option α} {y : MethodName} {N : Zm} {τ1 τr i idx n : Nat} {as : List (Value × Nat)} {host : String} (hc : Zc l y N τ1 h ((.ref i, τr) :: as) (g1.map zoR)) (hs : ((Value.ref i, τr) :: as).reverse ++ st = st0) (hcd : zCd y N n) (hyn : y.name = "<init>") (hrn : mR N = none) (hm : (mO M, idx, y, host) ∈ zMn) (hw : Cond.instanceMethod y ∈ zT ∧ Cond.initialized y.cls ∈ zT) (hrm : zRm M N) (hn : as.length = n) (hl : st.length ≤ 4) (hd : zD M pc (.invokespecial idx) 3 pc2) (k : ∀ (x : Option Nat) (h1 : Zh), V l M n0 s0 τ cvt pc2 ls ((va_rf x, τ1) :: st) h1 (f x h1)) : V l M n0 s0 τ cvt pc ls st0 h (zbR g1 f) := by
  obtain ⟨hd, rfl⟩ := hd
  exact v_invN (cv1 := zoR) hc hs hcd hyn hrn hm hw hrm hn hl hd (fun b => k b.1 b.2)
theorem zr_invN_V {g1 : Option (Zh)} {f : Zh → Option α} {y : MethodName} {N : Zm} {τr i idx n : Nat} {as : List (Value × Nat)} {host : String} (hc : Zc l y N 0 h ((.ref i, τr) :: as) (g1.map zoV)) (hs : ((Value.ref i, τr) :: as).reverse ++ st = st0) (hcd : zCd y N n) (hyn : y.name = "<init>") (hrn : mR N = none) (hm : (mO M, idx, y, host) ∈ zMn) (hw : Cond.instanceMethod y ∈ zT ∧ Cond.initialized y.cls ∈ zT) (hrm : zRm M N) (hn : as.length = n) (hl : st.length ≤ 4) (hd : zD M pc (.invokespecial idx) 3 pc2) (k : ∀ (h1 : Zh), V l M n0 s0 τ cvt pc2 ls st h1 (f h1)) : V l M n0 s0 τ cvt pc ls st0 h (zbV g1 f) := by
  obtain ⟨hd, rfl⟩ := hd
  exact v_invN (cv1 := zoV) hc hs hcd hyn hrn hm hw hrm hn hl hd (fun b => k b)
theorem zr_invN_i {g1 : Option (Int32)} {f : Int32 → Option α} {y : MethodName} {N : Zm} {τr i idx n : Nat} {as : List (Value × Nat)} {host : String} (hc : Zc l y N 0 h ((.ref i, τr) :: as) (g1.map (zoi h))) (hs : ((Value.ref i, τr) :: as).reverse ++ st = st0) (hcd : zCd y N n) (hyn : y.name = "<init>") (hrn : mR N = none) (hm : (mO M, idx, y, host) ∈ zMn) (hw : Cond.instanceMethod y ∈ zT ∧ Cond.initialized y.cls ∈ zT) (hrm : zRm M N) (hn : as.length = n) (hl : st.length ≤ 4) (hd : zD M pc (.invokespecial idx) 3 pc2) (k : ∀ (x : Int32), V l M n0 s0 τ cvt pc2 ls ((.int x, 0) :: st) h (f x)) : V l M n0 s0 τ cvt pc ls st0 h (zbi g1 f) := by
  obtain ⟨hd, rfl⟩ := hd
  exact v_invN (cv1 := (zoi h)) hc hs hcd hyn hrn hm hw hrm hn hl hd (fun b => k b)
theorem zr_invN_j {g1 : Option (Int64)} {f : Int64 → Option α} {y : MethodName} {N : Zm} {τr i idx n : Nat} {as : List (Value × Nat)} {host : String} (hc : Zc l y N 0 h ((.ref i, τr) :: as) (g1.map (zoj h))) (hs : ((Value.ref i, τr) :: as).reverse ++ st = st0) (hcd : zCd y N n) (hyn : y.name = "<init>") (hrn : mR N = none) (hm : (mO M, idx, y, host) ∈ zMn) (hw : Cond.instanceMethod y ∈ zT ∧ Cond.initialized y.cls ∈ zT) (hrm : zRm M N) (hn : as.length = n) (hl : st.length ≤ 4) (hd : zD M pc (.invokespecial idx) 3 pc2) (k : ∀ (x : Int64), V l M n0 s0 τ cvt pc2 ls ((.long x, 0) :: st) h (f x)) : V l M n0 s0 τ cvt pc ls st0 h (zbj g1 f) := by
  obtain ⟨hd, rfl⟩ := hd
  exact v_invN (cv1 := (zoj h)) hc hs hcd hyn hrn hm hw hrm hn hl hd (fun b => k b)
theorem zr_invN_r {g1 : Option (Option Nat)} {f : Option Nat → Option α} {y : MethodName} {N : Zm} {τ1 τr i idx n : Nat} {as : List (Value × Nat)} {host : String} (hc : Zc l y N τ1 h ((.ref i, τr) :: as) (g1.map (zor h))) (hs : ((Value.ref i, τr) :: as).reverse ++ st = st0) (hcd : zCd y N n) (hyn : y.name = "<init>") (hrn : mR N = none) (hm : (mO M, idx, y, host) ∈ zMn) (hw : Cond.instanceMethod y ∈ zT ∧ Cond.initialized y.cls ∈ zT) (hrm : zRm M N) (hn : as.length = n) (hl : st.length ≤ 4) (hd : zD M pc (.invokespecial idx) 3 pc2) (k : ∀ (x : Option Nat), V l M n0 s0 τ cvt pc2 ls ((va_rf x, τ1) :: st) h (f x)) : V l M n0 s0 τ cvt pc ls st0 h (zbr g1 f) := by
  obtain ⟨hd, rfl⟩ := hd
  exact v_invN (cv1 := (zor h)) hc hs hcd hyn hrn hm hw hrm hn hl hd (fun b => k b)
theorem zr_invN_v {g1 : Option (Unit)} {f : Unit → Option α} {y : MethodName} {N : Zm} {τr i idx n : Nat} {as : List (Value × Nat)} {host : String} (hc : Zc l y N 0 h ((.ref i, τr) :: as) (g1.map (zov h))) (hs : ((Value.ref i, τr) :: as).reverse ++ st = st0) (hcd : zCd y N n) (hyn : y.name = "<init>") (hrn : mR N = none) (hm : (mO M, idx, y, host) ∈ zMn) (hw : Cond.instanceMethod y ∈ zT ∧ Cond.initialized y.cls ∈ zT) (hrm : zRm M N) (hn : as.length = n) (hl : st.length ≤ 4) (hd : zD M pc (.invokespecial idx) 3 pc2) (k : ∀ (x : Unit), V l M n0 s0 τ cvt pc2 ls st h (f x)) : V l M n0 s0 τ cvt pc ls st0 h (zbv g1 f) := by
  obtain ⟨hd, rfl⟩ := hd
  exact v_invN (cv1 := (zov h)) hc hs hcd hyn hrn hm hw hrm hn hl hd (fun b => k b)
theorem zr_objI {i τr idx : Nat} (hw : Cond.methodLink (mO M) idx objectInit ∈ zT ∧ Cond.instanceMethod objectInit ∈ zT ∧ Cond.code objectInit ⟨#[0xb1]⟩ 1 none ∈ zT) (hf : 1 ≤ mF M ∧ 20 ≤ mW M) (hl : st.length ≤ 4) (hd : zD M pc (.invokespecial idx) 3 pc2) (k : V l M n0 s0 τ cvt pc2 ls st h g) : V l M n0 s0 τ cvt pc ls ((.ref i, τr) :: st) h g := by
  obtain ⟨hd, rfl⟩ := hd
  exact v_objI hw hf hl hd k
end ZW
