/-! calls -/
def zcs {B : Type} (r : Option Nat) (a : B) (f : Nat → B) : B := match r with
  | none => a
  | some i => f i
section ZK
variable {l : Launch} {α : Type} {M : Zm} {n0 s0 τ : Nat} {cvt : α → Option Value × Zh} {pc : Nat} {ls ls2 : List (Option (Value × Nat))} {st st0 : List (Value × Nat)} {h : Zh} {g : Option α}
theorem v_null' {r : Option Nat} {a t : Nat} {off : Int} {g1 : Option α} {f : Nat → Option α} (hd : decode (mC M) pc = .ok (.ifnull off, 3)) (ht : (pc : Int) + off = (t : Int)) (kn : r = none → V l M n0 s0 τ cvt t ls st h g1) (ks : ∀ i, r = some i → V l M n0 s0 τ cvt (pc + 3) ls st h (f i)) : V l M n0 s0 τ cvt pc ls ((va_rf r, a) :: st) h (zcs r g1 f) := by
  cases r with
  | none => exact v_pure (kn rfl) (fun _ t => t.tl) (fun p e R s m args below meth c ρ H locs L cells slots Q hx hb ho _ lv k => lv_ifnullN hx hb hd ht k)
  | some i => exact v_pure (ks i rfl) (fun _ t => t.tl) (fun p e R s m args below meth c ρ H locs L cells slots Q hx hb ho _ lv k => lv_ifnull hx hb hd k)
theorem v_nonnull' {r : Option Nat} {a t : Nat} {off : Int} {g1 : Option α} {f : Nat → Option α} (hd : decode (mC M) pc = .ok (.ifnonnull off, 3)) (ht : (pc : Int) + off = (t : Int)) (kn : r = none → V l M n0 s0 τ cvt (pc + 3) ls st h g1) (ks : ∀ i, r = some i → V l M n0 s0 τ cvt t ls st h (f i)) : V l M n0 s0 τ cvt pc ls ((va_rf r, a) :: st) h (zcs r g1 f) := by
  cases r with
  | none => exact v_pure (kn rfl) (fun _ t => t.tl) (fun p e R s m args below meth c ρ H locs L cells slots Q hx hb ho _ lv k => lv_ifnonnullN hx hb hd k)
  | some i => exact v_pure (ks i rfl) (fun _ t => t.tl) (fun p e R s m args below meth c ρ H locs L cells slots Q hx hb ho _ lv k => lv_ifnonnull hx hb hd ht k)
theorem zWs_get {cA : Nat → ClassId} {ρ : Nat → Nat} {k : Nat} {q : Nat × va_E} (hk : (zWs cA ρ h)[k]? = some q) : k < zN h ∧ q.1 = ρ k := by
  have hl : k < zN h := by
    have := (List.getElem?_eq_some_iff.mp hk).1
    simpa [zWs] using this
  rw [zWs_at hl] at hk
  cases hk
  exact ⟨hl, rfl⟩
theorem v_call {β : Type} {cv1 : β → Option Value × Zh} {g1 : Option β} {g2 : β → Option α} {y : MethodName} {N : Zm} {τ1 : Nat} {as : List (Value × Nat)} (hc : Zc l y N τ1 h as (g1.map cv1)) (hs : as.reverse ++ st = st0)
    (hrun : ∀ (p : Program) (e : Env) (R : Room) (s : State) (m : MethodId) (args : Array Value) (below : List Frame) (meth : Method) (c : Code) (D : va_G) (cA : Nat → ClassId) (ρ : Nat → Nat) (H : Heap) (locs : List Loc) (L : Array Slot) (cells slots mc ms : Nat) (Pc : Array Value → State → Prop) (Qc : Array Value → State → Outcome → State → Prop) (free : Addr → Prop) (rm : Room), zCx M p R s m args meth c D cA → va_P D zCl (zWs cA ρ h) H → zTo h as → Met l y (.code y (mC N) (mL N) (mR N) :: zT) rm Pc Qc mc ms free → rm.cells = mc → rm.slots = ms → rm.frames = mF N → rm.locals = mW N → FrameBlind Pc → (∀ U : State, U.heap = H → s.WarmedH U.vm → Pc (as.map (fun q => zcv ρ q.1)).toArray U) → L.size = mL M → cells + mc ≤ R.cells → slots + ms ≤ R.slots →
      va_Run p l e R s m args below meth c H locs cells slots mc ms (F0 m pc L ((as.reverse ++ st).map (fun q => zcv ρ q.1))) (st.map (fun q => zcv ρ q.1)) (Qc (as.map (fun q => zcv ρ q.1)).toArray) free)
    (k : ∀ b, V l M n0 s0 τ cvt (pc + 3) ls ((cv1 b).1.toList.map (fun v => (v, τ1)) ++ st) (cv1 b).2 (g2 b)) : V l M n0 s0 τ cvt pc ls st0 h (Option.bind g1 g2) := by
  subst hs
  intro o ho
  obtain ⟨b, hb, hg2⟩ := Option.bind_eq_some_iff.mp ho
  obtain ⟨k1, k2⟩ := k b o hg2
  obtain ⟨c1, c2⟩ := hc (cv1 b) (by rw [hb]; rfl)
  refine ⟨c1.tr k1, fun wf tl to p e R s m args below meth c D cA ρ0 ρ H locs L cells slots cx rl lv r1 r2 => ?_⟩
  have toa : zTo h as := fun q hq => to q (List.mem_append_left _ (List.mem_reverse.mpr hq))
  have tos : zTo h st := fun q hq => to q (List.mem_append_right _ hq)
  have n1 := rl.2.2.2.2.1
  have n2 := rl.2.2.2.2.2
  have l1 := c1.1
  have l2 := c1.2.1
  have l3 := k1.1
  have l4 := k1.2.1
  have hDself : va_D (zAf ρ (zN h) H.size) (zWs cA ρ h) := rl.2.2.1.weaken (fun i q hq _ => Or.inl ⟨i, (zWs_get hq).1, (zWs_get hq).2.symm⟩)
  have run := hrun p e R s m args below meth c D cA ρ H locs L cells slots _ _ _ _ _ _ cx rl.2.1 toa (c2 wf toa D cA ρ H.size) rfl rfl rfl rfl
    (fun a U g mk q => ⟨q.1, q.2.1, zFx.same rfl q.2.2.1, q.2.2.2.1, q.2.2.2.2⟩)
    (fun U hU hW => ⟨rfl, by rw [hU], zFx.moved hW cx.2.2.2.2.2.2.2.2.1, by rw [hU]; exact rl.2.1, hDself⟩) lv.1 (by omega) (by omega)
  intro T hT X
  obtain ⟨v, st₀, t, T', L', h0, X', hL, e1, e2, ⟨⟨ρ1, x1, x2, x3, x4⟩, x5, x6, x7⟩, stp⟩ := run T hT X
  have hv : v = (cv1 b).1.map (zcv ρ1) := by cases x2; rfl
  subst hv
  have hA : ∀ q, zAf ρ (zN h) H.size q → zAf ρ0 n0 s.heap.size q := by
    intro q hq
    rcases hq with ⟨i, hi, rfl⟩ | hq
    · exact rl.2.2.1.2 i _ (zWs_at hi)
    · exact Or.inr (Nat.le_trans rl.2.2.2.1.1 hq)
  obtain ⟨z1, z2⟩ := x5
  rw [h0] at z1 z2
  have hS : va_S (zAf ρ0 n0 s.heap.size) s.heap T'.heap (locs ++ L') := by
    refine ⟨Nat.le_trans rl.2.2.2.1.1 (by rw [e1]; exact z1), fun q g1 g2 => ?_, fun q hq => ?_⟩
    · rw [e1, z2 q (Nat.lt_of_lt_of_le g1 rl.2.2.2.1.1) (fun z => g2 (hA q z))]
      exact rl.2.2.2.1.2.1 q g1 g2
    · rcases List.mem_append.mp hq with hq | hq
      · exact rl.2.2.2.1.2.2 q hq
      · exact hA _ (hL q hq)
  have to1 : zTo (cv1 b).2 ((cv1 b).1.toList.map (fun v => (v, τ1)) ++ st) := by
    intro q hq
    rcases List.mem_append.mp hq with hq | hq
    · obtain ⟨w, hw, rfl⟩ := List.mem_map.mp hq
      exact x7 w (by simpa using hw)
    · exact (tos q hq).le c1
  obtain ⟨t2, a1, b1⟩ := k2 x6 (tl.le c1) to1 p e R s m args below meth c D cA ρ0 ρ1 T'.heap (locs ++ L') L (cells + (zN (cv1 b).2 - zN h)) (slots + (zS (cv1 b).2 - zS h)) cx
    ⟨fun i hi => (x1 i (by omega)).trans (rl.1 i hi), by rw [e1]; exact x3, x4.weaken (fun i q _ hq => hA _ hq), hS, by omega, by omega⟩ (lv.ext x1 tl) r1 r2 T' rfl X'
  refine ⟨t2, stp t2 ?_, b1⟩
  have e : ((cv1 b).1.toList.map (fun v => (v, τ1)) ++ st).map (fun q => zcv ρ1 q.1) = ((cv1 b).1.map (zcv ρ1)).toList ++ st.map (fun q => zcv ρ q.1) := by
    rw [List.map_append, zst_ext x1 tos]
    congr 1
    cases (cv1 b).1 <;> rfl
  rw [e] at a1
  exact a1
theorem zcat_le {ρ : Nat → Nat} (st : List (Value × Nat)) (hl : st.length ≤ 4) : ((st.map (fun q => zcv ρ q.1)).map fun v => v.category).sum ≤ 8 := by
  have h2 : ∀ (l : List (Value × Nat)), ((l.map (fun q => zcv ρ q.1)).map fun v => v.category).sum ≤ 2 * l.length := by
    intro l
    induction l with
    | nil => simp
    | cons a t ih =>
      simp only [List.map_cons, List.sum_cons, List.length_cons]
      rcases lv_cat (zcv ρ a.1) with hc | hc <;> omega
  have := h2 st
  omega
theorem zGood {ws : List Cond} (hw : ∀ w ∈ ws, w ∈ zT) : GoodIn zT ws := fun w h => zT_good w (hw w h)
/-- what a call's words are -/
def zCd (y : MethodName) (N : Zm) (n : Nat) : Prop := Cond.code y (mC N) (mL N) (mR N) ∈ zT ∧ y.cls ≠ "java/lang/invoke/MethodHandle" ∧ y.cls ≠ "java/lang/invoke/VarHandle" ∧ (parseMethodDescriptor y.desc).map (fun d => d.parameters.length) = some n
def zRm (M N : Zm) : Prop := mF N + 1 ≤ mF M ∧ 8 + (mL N + 11) + mW N ≤ mW M
theorem v_invV {β : Type} {cv1 : β → Option Value × Zh} {g1 : Option β} {g2 : β → Option α} {y : MethodName} {N : Zm} {τ1 τr i idx n : Nat} {as : List (Value × Nat)} {C : String} {T : u_T} {Nf : Nat} (hc : Zc l y N τ1 h ((.ref i, τr) :: as) (g1.map cv1)) (hs : ((Value.ref i, τr) :: as).reverse ++ st = st0) (hcl : zCl[τr]? = some (C, T, Nf)) (hτ : τr ≠ 4 ∧ τr ≠ 10 ∧ τr < 13) (hcd : zCd y N n) (hyc : y.cls = C) (hw : Cond.methodLink (mO M) idx y ∈ zT ∧ Cond.instanceMethod y ∈ zT ∧ Cond.selects C y y ∈ zT ∧ Cond.initialized C ∈ zT) (hrm : zRm M N) (hn : as.length = n) (hl : st.length ≤ 4) (hd : decode (mC M) pc = .ok (.invokevirtual idx, 3))
    (k : ∀ b, V l M n0 s0 τ cvt (pc + 3) ls ((cv1 b).1.toList.map (fun v => (v, τ1)) ++ st) (cv1 b).2 (g2 b)) : V l M n0 s0 τ cvt pc ls st0 h (Option.bind g1 g2) := by
  refine v_call hc hs (fun p e R s m args below meth c D cA ρ H locs L cells slots mc ms Pc Qc free rm cx hP toa hM q1 q2 q3 q4 hbl hpre hsz f1 f2 => ?_) k
  obtain ⟨hi, hsub⟩ := toa.hd i rfl
  have hk : zK h i = τr := by
    rcases hsub with h | h | h
    · exact h
    · exact absurd h.1 hτ.1
    · exact absurd h.1 hτ.2.1
  have hat := (zWs_at (cA := cA) (ρ := ρ) hi)
  rw [zE_o hk hτ.2.2] at hat
  refine va_runV (As := as.map (fun q : Value × Nat => zcv ρ q.1)) ⟨cx.1, cx.2.1, cx.2.2.1, cx.2.2.2.1, cx.2.2.2.2.1⟩ hM (cwV n cx.2.2.2.2.1 (zGood ?_) rfl q1 q2 ⟨hyc, hcd.2⟩ ⟨by rw [q3, cx.2.2.2.2.2.2.2.2.2.1]; exact hrm.1, by rw [q4, cx.2.2.2.2.2.2.2.2.2.2]; exact hrm.2⟩) ⟨hbl, va_recv cx.2.2.2.2.2.2.2.2.1.1 hP hcl hat, hpre⟩ rfl (by simp [hn]) hsz ?_ (lv_room (zcat_le st hl)) hd ⟨f1, f2⟩
  · intro w hw'
    simp only [wsV, List.mem_append, List.mem_cons, List.not_mem_nil, or_false] at hw'
    rcases hw' with (rfl | rfl | rfl | rfl) | rfl | hw'
    · exact hw.1
    · exact hw.2.1
    · exact hw.2.2.1
    · exact hw.2.2.2
    · exact hcd.1
    · exact hw'
  · simp [List.map_append, List.map_reverse, zcv]
theorem v_invS {β : Type} {cv1 : β → Option Value × Zh} {g1 : Option β} {g2 : β → Option α} {y : MethodName} {N : Zm} {τ1 idx n : Nat} {as : List (Value × Nat)} (hc : Zc l y N τ1 h as (g1.map cv1)) (hs : as.reverse ++ st = st0) (hcd : zCd y N n) (hw : Cond.methodLink (mO M) idx y ∈ zT ∧ Cond.static y ∈ zT ∧ Cond.initialized y.cls ∈ zT) (hrm : zRm M N) (hn : as.length = n) (hl : st.length ≤ 4) (hd : decode (mC M) pc = .ok (.invokestatic idx, 3))
    (k : ∀ b, V l M n0 s0 τ cvt (pc + 3) ls ((cv1 b).1.toList.map (fun v => (v, τ1)) ++ st) (cv1 b).2 (g2 b)) : V l M n0 s0 τ cvt pc ls st0 h (Option.bind g1 g2) := by
  refine v_call hc hs (fun p e R s m args below meth c D cA ρ H locs L cells slots mc ms Pc Qc free rm cx hP toa hM q1 q2 q3 q4 hbl hpre hsz f1 f2 => ?_) k
  refine va_runS (As := as.map (fun q : Value × Nat => zcv ρ q.1)) ⟨cx.1, cx.2.1, cx.2.2.1, cx.2.2.2.1, cx.2.2.2.2.1⟩ hM (va_cwS n cx.2.2.2.2.1 (zGood ?_) rfl q1 q2 hcd.2 ⟨by rw [q3, cx.2.2.2.2.2.2.2.2.2.1]; exact hrm.1, by rw [q4, cx.2.2.2.2.2.2.2.2.2.2]; exact hrm.2⟩) ⟨hbl, hpre⟩ rfl (by simp [hn]) hsz ?_ (lv_room (zcat_le st hl)) hd ⟨f1, f2⟩
  · intro w hw'
    simp only [va_wsS, List.mem_append, List.mem_cons, List.not_mem_nil, or_false] at hw'
    rcases hw' with (rfl | rfl | rfl) | rfl | hw'
    · exact hw.1
    · exact hw.2.1
    · exact hw.2.2
    · exact hcd.1
    · exact hw'
  · simp [List.map_append, List.map_reverse]
theorem v_invI {β : Type} {cv1 : β → Option Value × Zh} {g1 : Option β} {g2 : β → Option α} {y : MethodName} {N : Zm} {τ1 τr i idx n : Nat} {as : List (Value × Nat)} (hc : Zc l y N τ1 h ((.ref i, τr) :: as) (g1.map cv1)) (hs : ((Value.ref i, τr) :: as).reverse ++ st = st0) (hcd : zCd y N n) (hyn : y.name = "<init>") (hrn : mR N = none) (hw : Cond.methodLink (mO M) idx y ∈ zT ∧ Cond.instanceMethod y ∈ zT ∧ Cond.initialized y.cls ∈ zT) (hrm : zRm M N) (hn : as.length = n) (hl : st.length ≤ 4) (hd : decode (mC M) pc = .ok (.invokespecial idx, 3))
    (k : ∀ b, V l M n0 s0 τ cvt (pc + 3) ls ((cv1 b).1.toList.map (fun v => (v, τ1)) ++ st) (cv1 b).2 (g2 b)) : V l M n0 s0 τ cvt pc ls st0 h (Option.bind g1 g2) := by
  refine v_call hc hs (fun p e R s m args below meth c D cA ρ H locs L cells slots mc ms Pc Qc free rm cx hP toa hM q1 q2 q3 q4 hbl hpre hsz f1 f2 => ?_) k
  rw [hrn] at hM
  refine va_runI (As := as.map (fun q : Value × Nat => zcv ρ q.1)) (b := ρ i) ⟨cx.1, cx.2.1, cx.2.2.1, cx.2.2.2.1, cx.2.2.2.2.1⟩ hM (cwI n cx.2.2.2.2.1 (zGood ?_) rfl q1 q2 (cx.2.2.2.2.1 _ hw.2.2) (cx.2.2.2.2.1 _ hw.1) (cx.2.2.2.2.1 _ hw.2.1) hyn hcd.2 ⟨by rw [q3, cx.2.2.2.2.2.2.2.2.2.1]; exact hrm.1, by rw [q4, cx.2.2.2.2.2.2.2.2.2.2]; exact hrm.2⟩) ⟨hbl, hpre⟩ rfl (by simp [hn]) hsz ?_ (lv_room (zcat_le st hl)) hd ⟨f1, f2⟩
  · intro w hw'
    rcases List.mem_cons.mp hw' with rfl | hw'
    · rw [← hrn]; exact hcd.1
    · exact hw'
  · simp [List.map_append, List.map_reverse, zcv]
set_option maxHeartbeats 1000000 in
theorem v_invN {β : Type} {cv1 : β → Option Value × Zh} {g1 : Option β} {g2 : β → Option α} {y : MethodName} {N : Zm} {τ1 τr i idx n : Nat} {as : List (Value × Nat)} {host : String} (hc : Zc l y N τ1 h ((.ref i, τr) :: as) (g1.map cv1)) (hs : ((Value.ref i, τr) :: as).reverse ++ st = st0) (hcd : zCd y N n) (hyn : y.name = "<init>") (hrn : mR N = none) (hm : (mO M, idx, y, host) ∈ zMn) (hw : Cond.instanceMethod y ∈ zT ∧ Cond.initialized y.cls ∈ zT) (hrm : zRm M N) (hn : as.length = n) (hl : st.length ≤ 4) (hd : decode (mC M) pc = .ok (.invokespecial idx, 3))
    (k : ∀ b, V l M n0 s0 τ cvt (pc + 3) ls ((cv1 b).1.toList.map (fun v => (v, τ1)) ++ st) (cv1 b).2 (g2 b)) : V l M n0 s0 τ cvt pc ls st0 h (Option.bind g1 g2) := by
  refine v_call hc hs (fun p e R s m args below meth c D cA ρ H locs L cells slots mc ms Pc Qc free rm cx hP toa hM q1 q2 q3 q4 hbl hpre hsz f1 f2 => ?_) k
  rw [hrn] at hM
  refine va_runIN (As := as.map (fun q : Value × Nat => zcv ρ q.1)) (b := ρ i) ⟨cx.1, cx.2.1, cx.2.2.1, cx.2.2.2.1, cx.2.2.2.2.1⟩ hM ⟨va_cnB n cx.2.2.2.2.1 (zGood ?_) rfl q1 q2 (cx.2.2.2.2.2.2.2.2.1.2.2.2.2 _ hm) (cx.2.2.2.2.1 _ hw.2) hcd.2 ⟨by rw [q3, cx.2.2.2.2.2.2.2.2.2.1]; exact hrm.1, by rw [q4, cx.2.2.2.2.2.2.2.2.2.2]; exact hrm.2⟩, hyn, cx.2.2.2.2.1 _ hw.1⟩ ⟨hbl, hpre⟩ rfl (by simp [hn]) hsz ?_ (lv_room (zcat_le st hl)) hd ⟨f1, f2⟩
  · intro w hw'
    rcases List.mem_cons.mp hw' with rfl | hw'
    · rw [← hrn]; exact hcd.1
    · exact hw'
  · simp [List.map_append, List.map_reverse, zcv]
theorem v_objI {i τr idx : Nat} (hw : Cond.methodLink (mO M) idx objectInit ∈ zT ∧ Cond.instanceMethod objectInit ∈ zT ∧ Cond.code objectInit ⟨#[0xb1]⟩ 1 none ∈ zT) (hf : 1 ≤ mF M ∧ 20 ≤ mW M) (hl : st.length ≤ 4) (hd : decode (mC M) pc = .ok (.invokespecial idx, 3)) (k : V l M n0 s0 τ cvt (pc + 3) ls st h g) : V l M n0 s0 τ cvt pc ls ((.ref i, τr) :: st) h g := by
  intro o ho
  obtain ⟨h1, h2⟩ := k o ho
  refine ⟨h1, fun wf tl to p e R s m args below meth c D cA ρ0 ρ H locs L cells slots cx rl lv r1 r2 => ?_⟩
  refine W.objInit (g := F0 m pc L (((Value.ref i, τr) :: st).map (fun q => zcv ρ q.1))) cx.1 cx.2.1 cx.2.2.2.1 (cx.2.2.2.2.1 _ hw.1) (cx.2.2.2.2.1 _ hw.2.1) (cx.2.2.2.2.1 _ hw.2.2) rfl (lv.1.trans cx.2.2.1.symm) (rest := st.map (fun q => zcv ρ q.1)) rfl hd (by rw [cx.2.2.2.2.2.2.2.2.2.1]; exact hf.1) ?_ (h2 wf tl to.tl p e R s m args below meth c D cA ρ0 ρ H locs L cells slots cx rl lv r1 r2)
  rw [cx.2.2.2.2.2.2.2.2.2.2]
  have := zcat_le (ρ := ρ) st hl
  show 2 * 0 + _ + 12 ≤ _
  have := hf.2
  omega
end ZK
