/-! calls of methods that are overridden, of a superclass's, clone -/
section ZZ
variable {l : Launch} {α : Type} {M : Zm} {n0 s0 τ : Nat} {cvt : α → Option Value × Zh} {pc pc2 : Nat} {ls ls2 : List (Option (Value × Nat))} {st st0 : List (Value × Nat)} {h : Zh} {g : Option α}
theorem v_invU {β : Type} {cv1 : β → Option Value × Zh} {g1 : Option β} {g2 : β → Option α} {x y : MethodName} {N : Zm} {τ1 τr t i idx n : Nat} {as : List (Value × Nat)} {C owner : String} {T : u_T} {Nf : Nat} {b0 : ByteArray} {m0 : Nat} {r0 : Option FieldType} (hk : zK h i = t) (hc : Zc l y N τ1 h ((.ref i, τr) :: as) (g1.map cv1)) (hs : ((Value.ref i, τr) :: as).reverse ++ st = st0) (hcl : zCl[t]? = some (C, T, Nf)) (ht : t < 13) (hcd : Cond.code y (mC N) (mL N) (mR N) ∈ zT) (hcd2 : owner ≠ "java/lang/invoke/MethodHandle" ∧ owner ≠ "java/lang/invoke/VarHandle" ∧ (parseMethodDescriptor x.desc).map (fun d => d.parameters.length) = some n) (hw : Cond.methodLink (mO M) idx x ∈ zT ∧ Cond.sameMethod x.cls owner x.name x.desc ∈ zT ∧ Cond.instanceMethod ⟨owner, x.name, x.desc⟩ ∈ zT ∧ Cond.selects C x y ∈ zT ∧ Cond.instanceMethod y ∈ zT ∧ Cond.initialized y.cls ∈ zT) (h0 : Cond.code ⟨owner, x.name, x.desc⟩ b0 m0 r0 ∈ zT) (hrm : zRm M N) (hn : as.length = n) (hl : st.length ≤ 4) (hd : decode (mC M) pc = .ok (.invokevirtual idx, 3))
    (k : ∀ b, V l M n0 s0 τ cvt (pc + 3) ls ((cv1 b).1.toList.map (fun v => (v, τ1)) ++ st) (cv1 b).2 (g2 b)) : V l M n0 s0 τ cvt pc ls st0 h (Option.bind g1 g2) := by
  refine v_call hc hs (fun p e R s m args below meth c D cA ρ H locs L cells slots mc ms Pc Qc free rm cx hP toa hM q1 q2 q3 q4 hbl hpre hsz f1 f2 => ?_) k
  obtain ⟨hi, -⟩ := toa.hd i rfl
  have hat := (zWs_at (cA := cA) (ρ := ρ) hi)
  rw [zE_o hk ht] at hat
  refine va_runU (x := x) (owner := owner) (As := as.map (fun q : Value × Nat => zcv ρ q.1)) ⟨cx.1, cx.2.1, cx.2.2.1, cx.2.2.2.1, cx.2.2.2.2.1⟩ hM (va_cwO n cx.2.2.2.2.1 (zGood ?_) rfl q1 q2 h0 hcd2 ⟨by rw [q3, cx.2.2.2.2.2.2.2.2.2.1]; exact hrm.1, by rw [q4, cx.2.2.2.2.2.2.2.2.2.2]; exact hrm.2⟩) ⟨hbl, va_recv cx.2.2.2.2.2.2.2.2.1.1 hP hcl hat, hpre⟩ rfl (by simp [hn]) hsz ?_ (lv_room (zcat_le st hl)) hd ⟨f1, f2⟩
  · intro w hw'
    simp only [va_wsO, List.mem_append, List.mem_cons, List.not_mem_nil, or_false] at hw'
    rcases hw' with (rfl | rfl | rfl | rfl | rfl | rfl) | rfl | hw'
    · exact hw.1
    · exact hw.2.1
    · exact hw.2.2.1
    · exact hw.2.2.2.1
    · exact hw.2.2.2.2.1
    · exact hw.2.2.2.2.2
    · exact hcd
    · exact hw'
  · simp [List.map_append, List.map_reverse, zcv]
theorem v_invSU {β : Type} {cv1 : β → Option Value × Zh} {g1 : Option β} {g2 : β → Option α} {y : MethodName} {N : Zm} {τ1 τr i idx n : Nat} {as : List (Value × Nat)} (h13 : τr < 13) (hc : Zc l y N τ1 h ((.ref i, τr) :: as) (g1.map cv1)) (hs : ((Value.ref i, τr) :: as).reverse ++ st = st0) (hcd : zCd y N n) (hyn : y.name ≠ "<init>") (hw : Cond.methodLink (mO M) idx y ∈ zT ∧ Cond.sameMethod y.cls y.cls y.name y.desc ∈ zT ∧ Cond.superclass (mO M) y.cls ∈ zT ∧ Cond.instanceMethod y ∈ zT ∧ Cond.initialized y.cls ∈ zT) (hrm : zRm M N) (hn : as.length = n) (hl : st.length ≤ 4) (hd : decode (mC M) pc = .ok (.invokespecial idx, 3))
    (k : ∀ b, V l M n0 s0 τ cvt (pc + 3) ls ((cv1 b).1.toList.map (fun v => (v, τ1)) ++ st) (cv1 b).2 (g2 b)) : V l M n0 s0 τ cvt pc ls st0 h (Option.bind g1 g2) := by
  refine v_call hc hs (fun p e R s m args below meth c D cA ρ H locs L cells slots mc ms Pc Qc free rm cx hP toa hM q1 q2 q3 q4 hbl hpre hsz f1 f2 => ?_) k
  obtain ⟨hi, hsub⟩ := toa.hd i rfl
  obtain ⟨C, T, Nf, hcl⟩ := zCl_at h13 hsub
  have hlt : zK h i < 13 := by rcases hsub with h | h | h <;> omega
  have hat := (zWs_at (cA := cA) (ρ := ρ) hi)
  rw [zE_o rfl hlt] at hat
  refine va_runSU (C := C) (cC := D.1 (zK h i)) (As := as.map (fun q : Value × Nat => zcv ρ q.1)) (cx.2.2.2.2.2.2.2.2.1.1.1 _ _ hcl).2 ⟨cx.1, cx.2.1, cx.2.2.1, cx.2.2.2.1, cx.2.2.2.2.1⟩ hM (va_cwSU n cx.2.2.2.2.1 (zGood ?_) rfl q1 q2 ⟨hyn, hcd.2.2.2⟩ ⟨by rw [q3, cx.2.2.2.2.2.2.2.2.2.1]; exact hrm.1, by rw [q4, cx.2.2.2.2.2.2.2.2.2.2]; exact hrm.2⟩) ⟨hbl, va_recv cx.2.2.2.2.2.2.2.2.1.1 hP hcl hat, hpre⟩ rfl (by simp [hn]) hsz ?_ (lv_room (zcat_le st hl)) hd ⟨f1, f2⟩
  · intro w hw'
    simp only [va_wsSU, List.mem_append, List.mem_cons, List.not_mem_nil, or_false] at hw'
    rcases hw' with (rfl | rfl | rfl | rfl | rfl) | rfl | hw'
    · exact hw.1
    · exact hw.2.1
    · exact hw.2.2.1
    · exact hw.2.2.2.1
    · exact hw.2.2.2.2
    · exact hcd.1
    · exact hw'
  · simp [List.map_append, List.map_reverse, zcv]
/-- by the kind of the receiver -/
def zdp {B : Type} (h : Zh) (i : Nat) (a b c : Option B) : Option B := if zK h i = 4 then a else if zK h i = 10 then b else if zK h i = 7 then c else none
theorem zr_dsp {i : Nat} {g1 g2 g3 : Option α} (k1 : zK h i = 4 → V l M n0 s0 τ cvt pc ls st h g1) (k2 : zK h i = 10 → V l M n0 s0 τ cvt pc ls st h g2) (k3 : zK h i = 7 → V l M n0 s0 τ cvt pc ls st h g3) : V l M n0 s0 τ cvt pc ls st h (zdp h i g1 g2 g3) := by
  unfold zdp
  by_cases q1 : zK h i = 4
  · rw [if_pos q1]; exact k1 q1
  · rw [if_neg q1]
    by_cases q2 : zK h i = 10
    · rw [if_pos q2]; exact k2 q2
    · rw [if_neg q2]
      by_cases q3 : zK h i = 7
      · rw [if_pos q3]; exact k3 q3
      · rw [if_neg q3]; exact v_none
/-- a row of ints once more -/
theorem zr_clone {i idx : Nat} (hw : Cond.methodLink (mO M) idx ⟨"[I", "clone", "()Ljava/lang/Object;"⟩ ∈ zT ∧ Cond.sameMethod "[I" "java/lang/Object" "clone" "()Ljava/lang/Object;" ∈ zT ∧ Cond.native ⟨"java/lang/Object", "clone", "()Ljava/lang/Object;"⟩ ∈ zT ∧ Cond.instanceMethod ⟨"java/lang/Object", "clone", "()Ljava/lang/Object;"⟩ ∈ zT ∧ Cond.selects "[I" ⟨"[I", "clone", "()Ljava/lang/Object;"⟩ ⟨"java/lang/Object", "clone", "()Ljava/lang/Object;"⟩ ∈ zT) (hf : 1 ≤ mF M ∧ 22 ≤ mW M) (hl : st.length ≤ 4) (hd : zD M pc (.invokevirtual idx) 3 pc2) (kk : V l M n0 s0 τ cvt pc2 ls ((.ref (zN h), 20) :: st) (zcI (zA h 20 (zL h i)) i 0 (zN h) 0 (zL h i)) g) : V l M n0 s0 τ cvt pc ls ((.ref i, 20) :: st) h g := by
  obtain ⟨hd, rfl⟩ := hd
  intro o ho
  obtain ⟨h1, h2⟩ := kk o ho
  refine ⟨zLe_A.tr h1, fun wf tl to p e R s m args below meth c D cA ρ0 ρ H locs L cells slots cx rl lv r1 r2 => ?_⟩
  obtain ⟨hi, his⟩ := to.hd i rfl
  have hki := zSub_20 his
  have fx := cx.2.2.2.2.2.2.2.2.1
  have cw := cx.2.2.2.2.1
  have n1 : zN h + 1 ≤ zN (cvt o).2 := h1.1
  have n2 : zS h + zL h i ≤ zS (cvt o).2 := h1.2.1
  have c1 := rl.2.2.2.2.1
  have c2 := rl.2.2.2.2.2
  have hat : (zWs cA ρ h)[i]? = some (ρ i, .inl (cA 20, zL h i, .inl (zI h i))) := (zWs_at hi).trans (by rw [zE_i hki])
  have hnm : s.vm.findClass "[I" = some (cA 20) := (fx.1.2 0 _ rfl).2
  refine va_clone (ad := "[I") cx.1 cx.2.1 (cx.2.2.1.trans lv.1.symm) cx.2.2.2.1 (cw _ hw.1) (cw _ hw.2.1) (cw _ hw.2.2.1) (cw _ hw.2.2.2.1) (cw _ hw.2.2.2.2) (fx.2.2.2.1 ("[I", "java/lang/Cloneable") (by simp [zCs])) fx.1 rl.2.1 rl.2.2.1 rl.2.2.2.1 (fun q hq => Or.inr hq) i 0 hat rfl hnm (fun j v hv => va_fit (F := fun j => .int (zI h i j)) (fun _ _ => rfl) j v hv) (by rw [cx.2.2.2.2.2.2.2.2.2.1]; exact hf.1) (by rw [cx.2.2.2.2.2.2.2.2.2.2]; have := zcat_le (ρ := ρ) st hl; have := hf.2; omega) (by omega) (by show slots + zL h i ≤ _; omega) hd (fun q H1 hK q1 q2 q3 => ?_)
  have hlt : (zcI (zA h 20 (zL h i)) i 0 (zN h) 0 (zL h i)) = (zcI (zA h 20 (zL h i)) i 0 (zN h) 0 (zL h i)) := rfl
  have eN : zI (zcI (zA h 20 (zL h i)) i 0 (zN h) 0 (zL h i)) (zN h) = va_cpy (zI h i) (fun _ => 0) 0 0 (zL h i) := by
    funext b
    have e0 : ∀ k, zI (zA h 20 (zL h i)) i k = zI h i k := fun k => by
      have : ¬ i = h.1 := Nat.ne_of_lt hi
      simp [zI, zA, this]
    have e1 : zI (zA h 20 (zL h i)) i = zI h i := funext e0
    have e2 : zI (zA h 20 (zL h i)) (zN h) = fun _ => 0 := funext (fun _ => zI_A)
    show (if zN h = zN h then va_cpy (zI (zA h 20 (zL h i)) i) (zI (zA h 20 (zL h i)) (zN h)) 0 0 (zL h i) b else _) = _
    rw [if_pos rfl, e1, e2]
  have wsE : zWs cA (zup ρ (zN h) q) (zcI (zA h 20 (zL h i)) i 0 (zN h) 0 (zL h i)) = zWs cA ρ h ++ [(q, .inl (cA 20, zL h i, .inl (va_cpy (zI h i) (fun _ => 0) 0 0 (zL h i))))] := by
    show (List.range (zN h + 1)).map _ = (List.range (zN h)).map _ ++ _
    rw [List.range_succ, List.map_append]
    congr 1
    · refine List.map_congr_left (fun a ha => ?_)
      have ha := List.mem_range.mp ha
      rw [zup_lt a ha, zE_cI (by omega), zE_A (by omega), zE_ext zup_lt wf]
    · have : zE cA (zup ρ (zN h) q) (zcI (zA h 20 (zL h i)) i 0 (zN h) 0 (zL h i)) (zN h) = .inl (cA 20, zL h i, .inl (va_cpy (zI h i) (fun _ => 0) 0 0 (zL h i))) := by
        rw [zE_i (h := zcI (zA h 20 (zL h i)) i 0 (zN h) 0 (zL h i)) (show zK (zA h 20 (zL h i)) (zN h) = 20 from zK_A), eN, show zL (zcI (zA h 20 (zL h i)) i 0 (zN h) 0 (zL h i)) (zN h) = zL h i from zL_A]
      simp [this, zup]
  have hcell : vp_cell (cA 20) (zL h i, .inl (zI h i)) = vp_cell (cA 20) (zL h i, .inl (va_cpy (zI h i) (fun _ => 0) 0 0 (zL h i))) := by
    rw [vp_cell_i, vp_cell_i]
    unfold arrV
    congr 2
    funext j
    simp [va_cpy, j.isLt]
  have p1 : va_P D zCl (zWs cA (zup ρ (zN h) q) (zcI (zA h 20 (zL h i)) i 0 (zN h) 0 (zL h i))) H1 := by
    rw [wsE]
    intro k x hx
    by_cases hk : k < (zWs cA ρ h).length
    · rw [List.getElem?_append_left hk] at hx
      exact q1 k x (by rw [List.getElem?_append_left hk]; exact hx)
    · rw [List.getElem?_append_right (by omega)] at hx
      have hz : k - (zWs cA ρ h).length < 1 := (List.getElem?_eq_some_iff.mp hx).1
      have hk0 : k - (zWs cA ρ h).length = 0 := by omega
      rw [hk0] at hx
      cases hx
      have := q1 k (q, .inl (cA 20, zL h i, .inl (zI h i))) (by rw [List.getElem?_append_right (by omega), hk0]; rfl)
      exact Eq.trans this (by rw [hcell])
  have p2 : va_D (zAf ρ0 n0 s.heap.size) (zWs cA (zup ρ (zN h) q) (zcI (zA h 20 (zL h i)) i 0 (zN h) 0 (zL h i))) := by
    have e : (zWs cA ρ h ++ [(q, (Sum.inl (cA 20, zL h i, Sum.inl (va_cpy (zI h i) (fun _ => 0) 0 0 (zL h i))) : va_E))]) = (zWs cA ρ h ++ [(q, (Sum.inl (cA 20, zL h i, Sum.inl (zI h i)) : va_E))]).set (zWs cA ρ h).length (q, (Sum.inl (cA 20, zL h i, Sum.inl (va_cpy (zI h i) (fun _ => 0) 0 0 (zL h i))) : va_E)) := by
      simp
    rw [wsE, e]
    exact q2.set (p := (zWs cA ρ h).length) (a := q) (e0 := .inl (cA 20, zL h i, .inl (zI h i))) (by simp)
  have wf' : zWf (zcI (zA h 20 (zL h i)) i 0 (zN h) 0 (zL h i)) := zWf_A (t := 20) (n := zL h i) wf
  have tok : zTok (zcI (zA h 20 (zL h i)) i 0 (zN h) 0 (zL h i)) (.ref (zN h), 20) := fun j hj => by
    cases hj
    exact ⟨Nat.lt_succ_self _, Or.inl (zK_A (h := h) (t := 20) (n := zL h i))⟩
  have le2 : zLe h (zcI (zA h 20 (zL h i)) i 0 (zN h) 0 (zL h i)) := zLe_A (h := h) (t := 20) (n := zL h i)
  have resu := h2 wf' (tl.le le2) (zTo_cons tok (to.tl.le le2)) p e R s m args below meth c D cA ρ0 (zup ρ (zN h) q) H1 locs L (cells + 1) (slots + zL h i) cx
    ⟨fun a ha => by rw [zup_lt a (by omega)]; exact rl.1 a ha, p1, p2, q3, by show cells + 1 + n0 = zN h + 1; omega, by show slots + zL h i + s0 = zS h + zL h i; omega⟩ (lv.ext zup_lt tl) r1 r2
  have es : ((Value.ref (zN h), 20) :: st).map (fun x => zcv (zup ρ (zN h) q) x.1) = .ref q :: st.map (fun x => zcv ρ x.1) := by
    rw [List.map_cons, zst_ext zup_lt to.tl]
    show Value.ref (zup ρ (zN h) q (zN h)) :: _ = _
    simp [zup]
  rw [es] at resu
  exact resu
theorem zr_castI {i idx : Nat} (hl : Cond.classLink (mO M) idx "[I" ∈ zT) (hd : zD M pc (.checkcast idx) 3 pc2) (kk : V l M n0 s0 τ cvt pc2 ls ((.ref i, 20) :: st) h g) : V l M n0 s0 τ cvt pc ls ((.ref i, 20) :: st) h g := by
  obtain ⟨hd, rfl⟩ := hd
  intro o ho
  obtain ⟨h1, h2⟩ := kk o ho
  refine ⟨h1, fun wf tl to p e R s m args below meth c D cA ρ0 ρ H locs L cells slots cx rl lv r1 r2 => ?_⟩
  obtain ⟨hi, his⟩ := to.hd i rfl
  have fx := cx.2.2.2.2.2.2.2.2.1
  exact va_castA cx.1 cx.2.1 cx.2.2.2.1 (cx.2.2.2.2.1 _ hl) rl.2.1 i ((zWs_at hi).trans (by rw [zE_i (zSub_20 his)])) (fx.1.2 0 _ rfl).2 hd (h2 wf tl to p e R s m args below meth c D cA ρ0 ρ H locs L cells slots cx rl lv r1 r2)
end ZZ
