/-! THE CLAIM OUT OF ONE WALK OF THE LAW'S BODY. Your part is whole_start (and what it stands on); all else here is the same for every law, but numbers. -/
def R_law : String := "MagnetRowsLaw"
def lw_P (b : Addr) (xs : List Int32) (args : Array Value) (s : State) : Prop := args = #[.ref b] ∧ s.IntsAt b xs ∧ xs.length ≤ 3584 ∧ (Jvm.Cond.and given_1 narrow_1).before args s = true
def lw_Q (_ : Array Value) (s : State) (o : Outcome) (t : State) : Prop := o = .returned (some (.int 1)) ∧ Framed s o t [] 600000 7302250
def lw_Z (below : List Frame) (a : Array Value) (s : State) : State → Prop := fun t => ∃ o, t.status = .running ∧ Ended t below o ∧ lw_Q a s o t
/-- the law's own end, with 1 on the stack, nothing written that was there before, its room as the claim has it -/
theorem lw_ret {p : Program} {l : Launch} {e : Env} {s : State} {m : MethodId} {below : List Frame} {meth : Method} {c : Code} {b : Nat} (hx : p.tables.exec = Jvm.exec) (hb : c.code = code) (hr : meth.sig.returnType = ret) (hlocks : meth.locks = false) {pc : Nat} {H : Heap} {ls : Array Slot} (hdg : decode code pc = .ok (.ireturn, 1)) : W p l e room_1 s m #[Value.ref b] below meth c H [] 600000 7302250 (lw_Z below #[Value.ref b] s) (F0 m pc ls [.int 1]) := by
  intro T hT X
  obtain ⟨fs, hret, hrun, hended, hW, hframe⟩ := X.leave (v := some (.int 1)) (hlocks := hlocks) (fun h => by rw [hr] at h; cases h)
  have hmeth' : T.vm.method? m = some meth := X.method'
  refine ⟨T.setFrames fs, ?_, .returned (some (.int 1)), hrun, hended, rfl, ⟨_, rfl⟩, hW, hframe⟩
  jvm_step X.here [X.here.top, hx, hb, hdg, hmeth', hr, ret, narrow_b1]
  (try refine ⟨rfl, ?_⟩); (try refine ⟨rfl, ?_⟩)
  first | (intro acts; rw [hret _ acts rfl rfl rfl]) | rw [hret _ _ rfl rfl rfl]
  exact Steps.refl _
/-- what holds at the law's entry: the machine, the code, the tables' words (any of lw_tbl by 'hts w (by decide +kernel)'), the script of L ints xs at the cell b, what the Statement gives of the start (any of its parts by flat_of_before) -/
def lw_At (p : Program) (s : State) (m : MethodId) (meth : Method) (c : Code) (b L : Nat) (xs : Nat → Int32) : Prop :=
  p.tables.exec = Jvm.exec ∧ c.code = code ∧ meth.sig.returnType = ret ∧ c.maxLocals = 4 ∧ s.vm.findClass R_law = some m.cls ∧ (∀ w ∈ lw_tbl, w.before #[Value.ref b] s = true) ∧ va_X b L xs s s.heap ∧ b < s.heap.size ∧ meth.locks = false ∧ (Jvm.Cond.and given_1 narrow_1).before #[Value.ref b] s = true
/-! the law's own walk: two heaps side by side, the class's and the reference's -/
def zA0 (s : State) : Nat → Prop := fun q => s.heap.size ≤ q
def zW2 (D : va_G) (cA : Nat → ClassId) (s : State) (b1 b2 : Nat) (h1 h2 : Zh) (ρ1 ρ2 : Nat → Nat) (H : Heap) (locs : List Loc) (cells slots : Nat) : Prop :=
  (va_P D zCl (zWs cA ρ1 h1) H ∧ va_D (zA0 s) (zWs cA ρ1 h1) ∧ ρ1 0 = b1 ∧ zWf h1) ∧ (va_P D zCl (zWs cA ρ2 h2) H ∧ va_D (zA0 s) (zWs cA ρ2 h2) ∧ ρ2 0 = b2 ∧ zWf h2) ∧ (∀ i j, i < zN h1 → j < zN h2 → ρ1 i ≠ ρ2 j) ∧ va_S (zA0 s) s.heap H locs ∧ cells = zN h1 + zN h2 ∧ slots = zS h1 + zS h2
theorem zW2.swap {D : va_G} {cA : Nat → ClassId} {s : State} {b1 b2 : Nat} {h1 h2 : Zh} {ρ1 ρ2 : Nat → Nat} {H : Heap} {locs : List Loc} {cells slots : Nat} (h : zW2 D cA s b1 b2 h1 h2 ρ1 ρ2 H locs cells slots) : zW2 D cA s b2 b1 h2 h1 ρ2 ρ1 H locs cells slots :=
  ⟨h.2.1, h.1, fun i j hi hj e => h.2.2.1 j i hj hi e.symm, h.2.2.2.1, by have := h.2.2.2.2.1; omega, by have := h.2.2.2.2.2; omega⟩
section LW
variable (p : Program) (l : Launch) (e : Env) (s : State) (m : MethodId) (below : List Frame) (meth : Method) (c : Code) (b L : Nat) (xs : Nat → Int32) (D : va_G) (cA : Nat → ClassId)
def zLc : Prop := lw_At p s m meth c b L xs ∧ zFx D cA s ∧ L ≤ 3584
def U (la lb : Nat) (x3 : Int32) (b1 b2 pc : Nat) (st : List Value) (h1 h2 : Zh) : Prop := zLc p s m meth c b L xs D cA → ∀ (ρ1 ρ2 : Nat → Nat) (H : Heap) (locs : List Loc) (Lc : Array Slot) (cells slots : Nat), zW2 D cA s b1 b2 h1 h2 ρ1 ρ2 H locs cells slots → lv_has Lc 4 [(0, .ref b), (1, .ref la), (2, .ref lb), (3, .int x3)] → W p l e room_1 s m #[Value.ref b] below meth c H locs cells slots (lw_Z below #[Value.ref b] s) (F0 m pc Lc st)
variable {p l e s m below meth c b L xs D cA} {la lb b1 b2 pc pc2 : Nat} {x3 : Int32} {st : List Value} {h1 h2 : Zh}
theorem u_swap (k : U p l e s m below meth c b L xs D cA la lb x3 b2 b1 pc st h2 h1) : U p l e s m below meth c b L xs D cA la lb x3 b1 b2 pc st h1 h2 := fun hC ρ1 ρ2 H locs Lc cells slots hw lv => k hC ρ2 ρ1 H locs Lc cells slots hw.swap lv
theorem u_pure {st' : List Value} (k : U p l e s m below meth c b L xs D cA la lb x3 b1 b2 pc2 st' h1 h2) (hw : ∀ (H : Heap) (locs : List Loc) (Lc : Array Slot) (cells slots : Nat), p.tables.exec = Jvm.exec → c.code = code → lv_has Lc 4 [(0, .ref b), (1, .ref la), (2, .ref lb), (3, .int x3)] → va_S (zA0 s) s.heap H locs → va_X b L xs s s.heap → b < s.heap.size → W p l e room_1 s m #[Value.ref b] below meth c H locs cells slots (lw_Z below #[Value.ref b] s) (F0 m pc2 Lc st') → W p l e room_1 s m #[Value.ref b] below meth c H locs cells slots (lw_Z below #[Value.ref b] s) (F0 m pc Lc st)) : U p l e s m below meth c b L xs D cA la lb x3 b1 b2 pc st h1 h2 := fun hC ρ1 ρ2 H locs Lc cells slots w lv =>
  hw H locs Lc cells slots hC.1.1 hC.1.2.1 lv w.2.2.2.1 hC.1.2.2.2.2.2.2.1 hC.1.2.2.2.2.2.2.2.1 (k hC ρ1 ρ2 H locs Lc cells slots w lv)
theorem u_aload0 (hd : zDl pc (.aload_n 0) 1 pc2) (k : U p l e s m below meth c b L xs D cA la lb x3 b1 b2 pc2 (.ref b :: st) h1 h2) : U p l e s m below meth c b L xs D cA la lb x3 b1 b2 pc st h1 h2 := by
  obtain ⟨hd, rfl⟩ := hd
  exact u_pure k (fun H locs Lc cells slots hx hb lv _ _ _ kk => lv_aload_n hx hb hd rfl (lv_at lv 0 rfl) kk)
theorem u_aload1 (hd : zDl pc (.aload_n 1) 1 pc2) (k : U p l e s m below meth c b L xs D cA la lb x3 b1 b2 pc2 (.ref la :: st) h1 h2) : U p l e s m below meth c b L xs D cA la lb x3 b1 b2 pc st h1 h2 := by
  obtain ⟨hd, rfl⟩ := hd
  exact u_pure k (fun H locs Lc cells slots hx hb lv _ _ _ kk => lv_aload_n hx hb hd rfl (lv_at lv 1 rfl) kk)
theorem u_aload2 (hd : zDl pc (.aload_n 2) 1 pc2) (k : U p l e s m below meth c b L xs D cA la lb x3 b1 b2 pc2 (.ref lb :: st) h1 h2) : U p l e s m below meth c b L xs D cA la lb x3 b1 b2 pc st h1 h2 := by
  obtain ⟨hd, rfl⟩ := hd
  exact u_pure k (fun H locs Lc cells slots hx hb lv _ _ _ kk => lv_aload_n hx hb hd rfl (lv_at lv 2 rfl) kk)
theorem u_iload3 (hd : zDl pc (.iload_n 3) 1 pc2) (k : U p l e s m below meth c b L xs D cA la lb x3 b1 b2 pc2 (.int x3 :: st) h1 h2) : U p l e s m below meth c b L xs D cA la lb x3 b1 b2 pc st h1 h2 := by
  obtain ⟨hd, rfl⟩ := hd
  exact u_pure k (fun H locs Lc cells slots hx hb lv _ _ _ kk => lv_iload_n hx hb hd rfl (lv_at lv 3 rfl) kk)
theorem u_iconst {n : Int} {v : Int32} (hd : zDl pc (.iconst n) 1 pc2) (hv : Int32.ofInt n = v) (k : U p l e s m below meth c b L xs D cA la lb x3 b1 b2 pc2 (.int v :: st) h1 h2) : U p l e s m below meth c b L xs D cA la lb x3 b1 b2 pc st h1 h2 := by
  obtain ⟨hd, rfl⟩ := hd
  exact u_pure k (fun H locs Lc cells slots hx hb lv _ _ _ kk => lv_iconst hx hb hd hv kk)
theorem u_bipush {n : Int} {v : Int32} (hd : zDl pc (.bipush n) 2 pc2) (hv : (Int8.ofInt n).toInt32 = v) (k : U p l e s m below meth c b L xs D cA la lb x3 b1 b2 pc2 (.int v :: st) h1 h2) : U p l e s m below meth c b L xs D cA la lb x3 b1 b2 pc st h1 h2 := by
  obtain ⟨hd, rfl⟩ := hd
  exact u_pure k (fun H locs Lc cells slots hx hb lv _ _ _ kk => lv_bipush hx hb hd hv kk)
theorem u_iadd {x y : Int32} (hd : zDl pc .iadd 1 pc2) (k : U p l e s m below meth c b L xs D cA la lb x3 b1 b2 pc2 (.int (x + y) :: st) h1 h2) : U p l e s m below meth c b L xs D cA la lb x3 b1 b2 pc (.int y :: .int x :: st) h1 h2 := by
  obtain ⟨hd, rfl⟩ := hd
  exact u_pure k (fun H locs Lc cells slots hx hb lv _ _ _ kk => lv_iadd hx hb hd kk)
theorem u_isub {x y : Int32} (hd : zDl pc .isub 1 pc2) (k : U p l e s m below meth c b L xs D cA la lb x3 b1 b2 pc2 (.int (x - y) :: st) h1 h2) : U p l e s m below meth c b L xs D cA la lb x3 b1 b2 pc (.int y :: .int x :: st) h1 h2 := by
  obtain ⟨hd, rfl⟩ := hd
  exact u_pure k (fun H locs Lc cells slots hx hb lv _ _ _ kk => lv_isub hx hb hd kk)
theorem u_iand {x y : Int32} (hd : zDl pc .iand 1 pc2) (k : U p l e s m below meth c b L xs D cA la lb x3 b1 b2 pc2 (.int (x &&& y) :: st) h1 h2) : U p l e s m below meth c b L xs D cA la lb x3 b1 b2 pc (.int y :: .int x :: st) h1 h2 := by
  obtain ⟨hd, rfl⟩ := hd
  exact u_pure k (fun H locs Lc cells slots hx hb lv _ _ _ kk => lv_iand hx hb hd kk)
theorem zA0_b {s : State} {b : Nat} (h : b < s.heap.size) : ¬ zA0 s b := Nat.not_le.mpr h
theorem u_sld {x : Int32} (hi : vp_in x L) (hd : zDl pc .iaload 1 pc2) (k : U p l e s m below meth c b L xs D cA la lb x3 b1 b2 pc2 (.int (xs x.toNatClampNeg) :: st) h1 h2) : U p l e s m below meth c b L xs D cA la lb x3 b1 b2 pc (.int x :: .ref b :: st) h1 h2 := by
  obtain ⟨hd, rfl⟩ := hd
  exact u_pure k (fun H locs Lc cells slots hx hb lv hS hX hbl kk => va_sld hx hb hX hbl (zA0_b hbl) hS hi hd kk)
theorem u_slen (hd : zDl pc .arraylength 1 pc2) (k : U p l e s m below meth c b L xs D cA la lb x3 b1 b2 pc2 (.int (Int32.ofNat L) :: st) h1 h2) : U p l e s m below meth c b L xs D cA la lb x3 b1 b2 pc (.ref b :: st) h1 h2 := by
  obtain ⟨hd, rfl⟩ := hd
  exact u_pure k (fun H locs Lc cells slots hx hb lv hS hX hbl kk => va_slen hx hb hX hbl (zA0_b hbl) hS hd kk)
theorem u_goto {t : Nat} {off : Int} (hd : zDl pc (.goto off) 3 pc2) (ht : (pc : Int) + off = (t : Int)) (k : U p l e s m below meth c b L xs D cA la lb x3 b1 b2 t st h1 h2) : U p l e s m below meth c b L xs D cA la lb x3 b1 b2 pc st h1 h2 :=
  u_pure k (fun H locs Lc cells slots hx hb lv _ _ _ kk => lv_goto hx hb hd.1 ht kk)
theorem u_gt {x y : Int32} {t : Nat} {off : Int} (hd : zDl pc (.if_icmp .gt off) 3 pc2) (ht : (pc : Int) + off = (t : Int)) (kt : y < x → U p l e s m below meth c b L xs D cA la lb x3 b1 b2 t st h1 h2) (kf : ¬ y < x → U p l e s m below meth c b L xs D cA la lb x3 b1 b2 pc2 st h1 h2) : U p l e s m below meth c b L xs D cA la lb x3 b1 b2 pc (.int y :: .int x :: st) h1 h2 := by
  obtain ⟨hd, rfl⟩ := hd
  by_cases q : y < x
  · exact u_pure (kt q) (fun H locs Lc cells slots hx hb lv _ _ _ kk => lv_icmp_gt hx hb hd ht (fun _ => kk) (fun n => absurd q n))
  · exact u_pure (kf q) (fun H locs Lc cells slots hx hb lv _ _ _ kk => lv_icmp_gt hx hb hd ht (fun n => absurd n q) (fun _ => kk))
theorem u_eqT {x : Int32} {t : Nat} {off : Int} (hd : zDl pc (.if_icmp .eq off) 3 pc2) (ht : (pc : Int) + off = (t : Int)) (k : U p l e s m below meth c b L xs D cA la lb x3 b1 b2 t st h1 h2) : U p l e s m below meth c b L xs D cA la lb x3 b1 b2 pc (.int x :: .int x :: st) h1 h2 :=
  u_pure k (fun H locs Lc cells slots hx hb lv _ _ _ kk => lv_icmp_eq hx hb hd.1 ht (fun _ => kk) (fun n => absurd rfl n))
theorem zcmp0 (x : Int64) : lg_cmp x x = 0 := by simp [lg_cmp]
theorem u_lcmpT {x : Int64} {t pc3 : Nat} {off : Int} (hd : zDl pc .lcmp 1 pc2) (hd2 : zDl pc2 (.ifCond .eq off) 3 pc3) (ht : (pc2 : Int) + off = (t : Int)) (k : U p l e s m below meth c b L xs D cA la lb x3 b1 b2 t st h1 h2) : U p l e s m below meth c b L xs D cA la lb x3 b1 b2 pc (.long x :: .long x :: st) h1 h2 := by
  obtain ⟨hd, rfl⟩ := hd
  exact u_pure k (fun H locs Lc cells slots hx hb lv _ _ _ kk => W.lcmp hx hb hd (lv_if_eq hx hb hd2.1 ht (fun _ => kk) (fun n => absurd (zcmp0 x) n)))
theorem u_if0 {x : Int32} {t : Nat} {off : Int} (hd : zDl pc (.ifCond .eq off) 3 pc2) (ht : (pc : Int) + off = (t : Int)) (kt : x = 0 → U p l e s m below meth c b L xs D cA la lb x3 b1 b2 t st h1 h2) (kf : ¬ x = 0 → U p l e s m below meth c b L xs D cA la lb x3 b1 b2 pc2 st h1 h2) : U p l e s m below meth c b L xs D cA la lb x3 b1 b2 pc (.int x :: st) h1 h2 := by
  obtain ⟨hd, rfl⟩ := hd
  by_cases q : x = 0
  · exact u_pure (kt q) (fun H locs Lc cells slots hx hb lv _ _ _ kk => lv_if_eq hx hb hd ht (fun _ => kk) (fun n => absurd q n))
  · exact u_pure (kf q) (fun H locs Lc cells slots hx hb lv _ _ _ kk => lv_if_eq hx hb hd ht (fun n => absurd n q) (fun _ => kk))
theorem u_tab {x : Int32} {t len : Nat} {dflt lo hi off : Int} {offs : Array Int} (hd : zDl pc (.tableswitch dflt lo hi offs) len pc2) (n : Nat) (hx : x.toInt = n) (hlo : lo = 0) (hn : (n : Int) ≤ hi) (ho : offs[n]? = some off) (ht : (pc : Int) + off = (t : Int)) (k : U p l e s m below meth c b L xs D cA la lb x3 b1 b2 t st h1 h2) : U p l e s m below meth c b L xs D cA la lb x3 b1 b2 pc (.int x :: st) h1 h2 :=
  u_pure k (fun H locs Lc cells slots hx' hb lv _ _ _ kk => lv_tableIn hx' hb hd.1 (by omega) (by omega) (by rw [hx, hlo]; simpa using ho) ht kk)
theorem u_tabD {x : Int32} {t len : Nat} {dflt lo hi : Int} {offs : Array Int} (hd : zDl pc (.tableswitch dflt lo hi offs) len pc2) (hx : hi < x.toInt) (ht : (pc : Int) + dflt = (t : Int)) (k : U p l e s m below meth c b L xs D cA la lb x3 b1 b2 t st h1 h2) : U p l e s m below meth c b L xs D cA la lb x3 b1 b2 pc (.int x :: st) h1 h2 :=
  u_pure k (fun H locs Lc cells slots hx' hb lv _ _ _ kk => lv_tableOut hx' hb hd.1 (Or.inr hx) ht kk)
theorem u_iinc {y : Int32} (hd : zDl pc (.iinc 3 7) 3 pc2) (hy : x3 + 7 = y) (k : U p l e s m below meth c b L xs D cA la lb y b1 b2 pc2 st h1 h2) : U p l e s m below meth c b L xs D cA la lb x3 b1 b2 pc st h1 h2 := by
  obtain ⟨hd, rfl⟩ := hd
  subst hy
  intro hC ρ1 ρ2 H locs Lc cells slots w lv
  refine lv_iinc (k := 3) (v := x3 + 7) (lv' := [(3, .int (x3 + 7)), (0, .ref b), (1, .ref la), (2, .ref lb)]) hC.1.1 hC.1.2.1 hd lv rfl (by rfl) (by decide) rfl (fun Lc' lv' => ?_)
  exact k hC ρ1 ρ2 H locs Lc' cells slots w (lv_sub lv' [1, 2, 3, 0] rfl)
theorem u_ret (hd : zDl pc .ireturn 1 pc2) (hb : zN h1 + zN h2 ≤ 600000 ∧ zS h1 + zS h2 ≤ 7302250) : U p l e s m below meth c b L xs D cA la lb x3 b1 b2 pc [.int 1] h1 h2 := by
  intro hC ρ1 ρ2 H locs Lc cells slots w lv
  refine va_forget (fun q hq => w.2.2.2.1.2.2 q hq) ?_
  refine W.widen (k := 600000) (n := 7302250) (by rw [w.2.2.2.2.1]; exact hb.1) (by rw [w.2.2.2.2.2]; exact hb.2) ?_
  exact lw_ret hC.1.1 hC.1.2.1 hC.1.2.2.1 hC.1.2.2.2.2.2.2.2.2.1 hd.1
theorem zTo_ints {h : Zh} (ai : List Int32) : zTo h (ai.map (fun x => (Value.int x, 0))) := by
  intro q hq
  obtain ⟨x, -, rfl⟩ := List.mem_map.mp hq
  exact zTok_i
theorem zints (ρ : Nat → Nat) (ai : List Int32) : (ai.map (fun x => ((Value.int x, 0) : Value × Nat))).map (fun q => zcv ρ q.1) = ai.map Value.int := by
  rw [List.map_map]
  rfl
theorem u_run {β : Type} {cv1 : β → Option Value × Zh} {g1 : Option β} {y : MethodName} {N : Zm} {τ1 t : Nat} {ai : List Int32} {rest : List Value} (hc : Zc l y N τ1 h1 ((.ref 0, t) :: ai.map (fun x => (Value.int x, 0))) (g1.map cv1)) {o : β} (ho : g1 = some o) (hz : 0 < zN h1 ∧ zK h1 0 = t) (hv : ∀ ρ, (cv1 o).1.map (zcv ρ) = (cv1 o).1) (hb : zN (cv1 o).2 + zN h2 ≤ 600000 ∧ zS (cv1 o).2 + zS h2 ≤ 7302250)
    (hrun : ∀ (ρ : Nat → Nat) (H : Heap) (locs : List Loc) (Lc : Array Slot) (cells slots mc ms : Nat) (Pc : Array Value → State → Prop) (Qc : Array Value → State → Outcome → State → Prop) (free : Addr → Prop) (rm : Room), zLc p s m meth c b L xs D cA → va_P D zCl (zWs cA ρ h1) H → ρ 0 = b1 → Met l y (.code y (mC N) (mL N) (mR N) :: zT) rm Pc Qc mc ms free → rm.cells = mc → rm.slots = ms → rm.frames = mF N → rm.locals = mW N → FrameBlind Pc → (∀ U : State, U.heap = H → s.WarmedH U.vm → Pc (Value.ref b1 :: ai.map Value.int).toArray U) → Lc.size = 4 → cells + mc ≤ room_1.cells → slots + ms ≤ room_1.slots →
      va_Run p l e room_1 s m #[Value.ref b] below meth c H locs cells slots mc ms (F0 m pc Lc ((ai.map Value.int).reverse ++ .ref b1 :: rest)) rest (Qc (Value.ref b1 :: ai.map Value.int).toArray) free)
    (k : U p l e s m below meth c b L xs D cA la lb x3 b1 b2 (pc + 3) ((cv1 o).1.toList ++ rest) (cv1 o).2 h2) : U p l e s m below meth c b L xs D cA la lb x3 b1 b2 pc ((ai.map Value.int).reverse ++ .ref b1 :: rest) h1 h2 := by
  intro hC ρ1 ρ2 H locs Lc cells slots w lv
  obtain ⟨⟨hP1, hD1, e1, wf1⟩, ⟨hP2, hD2, e2, wf2⟩, hdis, hS, hce, hsl⟩ := w
  obtain ⟨c1, c2⟩ := hc (cv1 o) (by rw [ho]; rfl)
  have toa : zTo h1 ((.ref 0, t) :: ai.map (fun x => (Value.int x, 0))) := zTo_cons (fun i hi => by cases hi; exact ⟨hz.1, Or.inl hz.2⟩) (zTo_ints ai)
  have eas : ((Value.ref 0, t) :: ai.map (fun x => ((Value.int x, 0) : Value × Nat))).map (fun q => zcv ρ1 q.1) = Value.ref b1 :: ai.map Value.int := by
    rw [List.map_cons, zints, ← e1]
    rfl
  have met := c2 wf1 toa D cA ρ1 H.size
  rw [eas] at met
  have hDself : va_D (zAf ρ1 (zN h1) H.size) (zWs cA ρ1 h1) := hD1.weaken (fun i q hq _ => Or.inl ⟨i, (zWs_get hq).1, (zWs_get hq).2.symm⟩)
  have l1 := c1.1
  have l2 := c1.2.1
  have run := hrun ρ1 H locs Lc cells slots _ _ _ _ _ _ hC hP1 e1 met rfl rfl rfl rfl
    (fun a U g mk q => ⟨q.1, q.2.1, zFx.same rfl q.2.2.1, q.2.2.2.1, q.2.2.2.2⟩)
    (fun U hU hW => ⟨rfl, by rw [hU], zFx.moved hW hC.2.1, by rw [hU]; exact hP1, hDself⟩) lv.1 (by show cells + _ ≤ 600000; omega) (by show slots + _ ≤ 7302250; omega)
  intro T hT X
  obtain ⟨v, st₀, t', T', L', h0, X', hL, f1, f2, ⟨⟨ρ', x1, x2, x3', x4⟩, x5, x6, x7⟩, stp⟩ := run T hT X
  have hvv : v = (cv1 o).1 := by
    have : v = (cv1 o).1.map (zcv ρ') := by cases x2; rfl
    rw [this, hv]
  subst hvv
  have hA : ∀ q, zAf ρ1 (zN h1) H.size q → zA0 s q := by
    intro q hq
    rcases hq with ⟨i, hi, rfl⟩ | hq
    · exact hD1.2 i _ (zWs_at hi)
    · exact Nat.le_trans hS.1 hq
  obtain ⟨z1, z2⟩ := x5
  rw [h0] at z1 z2
  have hS' : va_S (zA0 s) s.heap T'.heap (locs ++ L') := by
    refine ⟨Nat.le_trans hS.1 (by rw [f1]; exact z1), fun q g1 g2 => ?_, fun q hq => ?_⟩
    · rw [f1, z2 q (Nat.lt_of_lt_of_le g1 hS.1) (fun z => g2 (hA q z))]
      exact hS.2.1 q g1 g2
    · rcases List.mem_append.mp hq with hq | hq
      · exact hS.2.2 q hq
      · exact hA _ (hL q hq)
  -- the other heap: none of its cells may change
  have out : ∀ j, j < zN h2 → ρ2 j < H.size ∧ ¬ zAf ρ1 (zN h1) H.size (ρ2 j) := by
    intro j hj
    have hlt : ρ2 j < H.size := (hP2 j _ (zWs_at hj)).lt
    refine ⟨hlt, fun q => ?_⟩
    rcases q with ⟨i, hi, q⟩ | q
    · exact hdis i j hi hj q
    · omega
  have hP2' : va_P D zCl (zWs cA ρ2 h2) T'.heap := hP2.kept (fun j q hq => by
    obtain ⟨a1, a2⟩ := zWs_get hq
    rw [a2, f1, z2 _ (out j a1).1 (out j a1).2])
  have hdis' : ∀ i j, i < zN (cv1 o).2 → j < zN h2 → ρ' i ≠ ρ2 j := by
    intro i j hi hj q
    have := x4.2 i _ (zWs_at hi)
    rw [show (ρ' i, zE cA ρ' (cv1 o).2 i).1 = ρ' i from rfl, q] at this
    exact (out j hj).2 this
  obtain ⟨t2, a1, b1'⟩ := k hC ρ' ρ2 T'.heap (locs ++ L') Lc _ _ ⟨⟨by rw [f1]; exact x3', x4.weaken (fun i q _ hq => hA _ hq), (x1 0 hz.1).trans e1, x6⟩, ⟨hP2', hD2, e2, wf2⟩, hdis', hS', rfl, rfl⟩ lv T' rfl (by
    have ea : cells + (zN (cv1 o).2 - zN h1) = zN (cv1 o).2 + zN h2 := by omega
    have eb : slots + (zS (cv1 o).2 - zS h1) = zS (cv1 o).2 + zS h2 := by omega
    rw [← ea, ← eb]
    exact X')
  exact ⟨t2, stp t2 a1, b1'⟩
theorem zT_tbl {w : Cond} (h : w ∈ zT) : w ∈ lw_tbl := (List.mem_filter.mp h).1
theorem zGoodL {ws : List Cond} (hw : ∀ w ∈ ws, w ∈ zT) : GoodIn lw_tbl ws := fun w h => ⟨zT_tbl (hw w h), (zT_good w (hw w h)).2⟩
theorem u_callV {β : Type} {cv1 : β → Option Value × Zh} {g1 : Option β} {y : MethodName} {N : Zm} {τ1 t idx n : Nat} {ai : List Int32} {rest : List Value} {C : String} {T : u_T} {Nf : Nat} (hc : Zc l y N τ1 h1 ((.ref 0, t) :: ai.map (fun x => (Value.int x, 0))) (g1.map cv1)) {o : β} (ho : g1 = some o) (hz : 0 < zN h1 ∧ zK h1 0 = t) (hv : ∀ ρ, (cv1 o).1.map (zcv ρ) = (cv1 o).1) (hb : zN (cv1 o).2 + zN h2 ≤ 600000 ∧ zS (cv1 o).2 + zS h2 ≤ 7302250) (hcl : zCl[t]? = some (C, T, Nf)) (ht : t < 13) (hcd : zCd y N n) (hyc : y.cls = C) (hw : Cond.methodLink RL idx y ∈ zT ∧ Cond.instanceMethod y ∈ zT ∧ Cond.selects C y y ∈ zT ∧ Cond.initialized C ∈ zT) (hrm : mF N + 1 ≤ 9 ∧ 8 + (mL N + 11) + mW N ≤ 334) (hn : ai.length = n) (hl : (rest.map fun v => v.category).sum ≤ 8) (hd : zDl pc (.invokevirtual idx) 3 pc2)
    (k : U p l e s m below meth c b L xs D cA la lb x3 b1 b2 pc2 ((cv1 o).1.toList ++ rest) (cv1 o).2 h2) : U p l e s m below meth c b L xs D cA la lb x3 b1 b2 pc ((ai.map Value.int).reverse ++ .ref b1 :: rest) h1 h2 := by
  obtain ⟨hd, rfl⟩ := hd
  refine u_run hc ho hz hv hb (fun ρ H locs Lc cells slots mc ms Pc Qc free rm hC hP e1 hM q1 q2 q3 q4 hbl hpre hsz f1 f2 => ?_) k
  obtain ⟨hx, hbc, hr, hml, hown, hts, -⟩ := hC.1
  have hat := (zWs_at (cA := cA) (ρ := ρ) hz.1)
  rw [zE_o hz.2 ht, e1] at hat
  refine va_runV (As := ai.map Value.int) (Ts := lw_tbl) (own := R_law) ⟨hx, hbc, hml, hown, hts⟩ hM (cwV n hts (zGoodL ?_) rfl q1 q2 ⟨hyc, hcd.2⟩ ⟨by rw [q3]; exact hrm.1, by rw [q4]; exact hrm.2⟩) ⟨hbl, va_recv hC.2.1.1 hP hcl hat, hpre⟩ rfl (by simp [hn]) hsz rfl (lv_room hl) hd ⟨f1, f2⟩
  intro w hw'
  simp only [wsV, List.mem_append, List.mem_cons, List.not_mem_nil, or_false] at hw'
  rcases hw' with (rfl | rfl | rfl | rfl) | rfl | hw'
  · exact hw.1
  · exact hw.2.1
  · exact hw.2.2.1
  · exact hw.2.2.2
  · exact hcd.1
  · exact hw'
theorem u_callI {y : MethodName} {N : Zm} {g1 : Option Zh} {t idx : Nat} {rest : List Value} (hc : Zc l y N 0 h1 [(.ref 0, t)] (g1.map zoV)) {o : Zh} (ho : g1 = some o) (hz : 0 < zN h1 ∧ zK h1 0 = t) (hb : zN o + zN h2 ≤ 600000 ∧ zS o + zS h2 ≤ 7302250) (hcd : zCd y N 0) (hyn : y.name = "<init>") (hrn : mR N = none) (hw : Cond.methodLink RL idx y ∈ zT ∧ Cond.instanceMethod y ∈ zT ∧ Cond.initialized y.cls ∈ zT) (hrm : mF N + 1 ≤ 9 ∧ 8 + (mL N + 11) + mW N ≤ 334) (hl : (rest.map fun v => v.category).sum ≤ 8) (hd : zDl pc (.invokespecial idx) 3 pc2)
    (k : U p l e s m below meth c b L xs D cA la lb x3 b1 b2 pc2 rest o h2) : U p l e s m below meth c b L xs D cA la lb x3 b1 b2 pc (.ref b1 :: rest) h1 h2 := by
  obtain ⟨hd, rfl⟩ := hd
  refine u_run (ai := []) (cv1 := zoV) hc ho hz (fun _ => rfl) hb (fun ρ H locs Lc cells slots mc ms Pc Qc free rm hC hP e1 hM q1 q2 q3 q4 hbl hpre hsz f1 f2 => ?_) k
  obtain ⟨hx, hbc, hr, hml, hown, hts, -⟩ := hC.1
  rw [hrn] at hM
  refine va_runI (As := []) (b := b1) (Ts := lw_tbl) (own := R_law) ⟨hx, hbc, hml, hown, hts⟩ hM (cwI 0 hts (zGoodL ?_) rfl q1 q2 (hts _ (zT_tbl hw.2.2)) (hts _ (zT_tbl hw.1)) (hts _ (zT_tbl hw.2.1)) hyn hcd.2 ⟨by rw [q3]; exact hrm.1, by rw [q4]; exact hrm.2⟩) ⟨hbl, hpre⟩ rfl rfl hsz rfl (lv_room hl) hd ⟨f1, f2⟩
  intro w hw'
  rcases List.mem_cons.mp hw' with rfl | hw'
  · rw [← hrn]; exact hcd.1
  · exact hw'
end LW
