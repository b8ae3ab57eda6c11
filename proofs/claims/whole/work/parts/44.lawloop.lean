/-! the law's beginning and its loop -/
section LB
variable (p : Program) (l : Launch) (e : Env) (s : State) (m : MethodId) (below : List Frame) (meth : Method) (c : Code) (b L : Nat) (xs : Nat → Int32) (D : va_G) (cA : Nat → ClassId)
def U0 (b1 b2 pc : Nat) (ls : List (Nat × Value)) (st : List Value) (h1 h2 : Zh) : Prop := zLc p s m meth c b L xs D cA → ∀ (ρ1 ρ2 : Nat → Nat) (H : Heap) (locs : List Loc) (Lc : Array Slot) (cells slots : Nat), zW2 D cA s b1 b2 h1 h2 ρ1 ρ2 H locs cells slots → lv_has Lc 4 ls → W p l e room_1 s m #[Value.ref b] below meth c H locs cells slots (lw_Z below #[Value.ref b] s) (F0 m pc Lc st)
variable {p l e s m below meth c b L xs D cA} {la lb b1 b2 pc pc2 : Nat} {x3 : Int32} {st : List Value} {h1 h2 : Zh} {ls ls2 : List (Nat × Value)}
theorem u0_swap (k : U0 p l e s m below meth c b L xs D cA b2 b1 pc ls st h2 h1) : U0 p l e s m below meth c b L xs D cA b1 b2 pc ls st h1 h2 := fun hC ρ1 ρ2 H locs Lc cells slots hw lv => k hC ρ2 ρ1 H locs Lc cells slots hw.swap lv
theorem u0_run {β : Type} {cv1 : β → Option Value × Zh} {g1 : Option β} {y : MethodName} {N : Zm} {τ1 t : Nat} {ai : List Int32} {rest : List Value} (hc : Zc l y N τ1 h1 ((.ref 0, t) :: ai.map (fun x => (Value.int x, 0))) (g1.map cv1)) {o : β} (ho : g1 = some o) (hz : 0 < zN h1 ∧ zK h1 0 = t) (hv : ∀ ρ, (cv1 o).1.map (zcv ρ) = (cv1 o).1) (hb : zN (cv1 o).2 + zN h2 ≤ 600000 ∧ zS (cv1 o).2 + zS h2 ≤ 7302250)
    (hrun : ∀ (ρ : Nat → Nat) (H : Heap) (locs : List Loc) (Lc : Array Slot) (cells slots mc ms : Nat) (Pc : Array Value → State → Prop) (Qc : Array Value → State → Outcome → State → Prop) (free : Addr → Prop) (rm : Room), zLc p s m meth c b L xs D cA → va_P D zCl (zWs cA ρ h1) H → ρ 0 = b1 → Met l y (.code y (mC N) (mL N) (mR N) :: zT) rm Pc Qc mc ms free → rm.cells = mc → rm.slots = ms → rm.frames = mF N → rm.locals = mW N → FrameBlind Pc → (∀ U : State, U.heap = H → s.WarmedH U.vm → Pc (Value.ref b1 :: ai.map Value.int).toArray U) → Lc.size = 4 → cells + mc ≤ room_1.cells → slots + ms ≤ room_1.slots →
      va_Run p l e room_1 s m #[Value.ref b] below meth c H locs cells slots mc ms (F0 m pc Lc ((ai.map Value.int).reverse ++ .ref b1 :: rest)) rest (Qc (Value.ref b1 :: ai.map Value.int).toArray) free)
    (k : U0 p l e s m below meth c b L xs D cA b1 b2 (pc + 3) ls ((cv1 o).1.toList ++ rest) (cv1 o).2 h2) : U0 p l e s m below meth c b L xs D cA b1 b2 pc ls ((ai.map Value.int).reverse ++ .ref b1 :: rest) h1 h2 := by
  intro hC ρ1 ρ2 H locs Lc cells slots w lv
  obtain ⟨⟨hP1, hD1, e1, wf1⟩, ⟨hP2, hD2, e2, wf2⟩, hdis, hS, hce, hsl⟩ := w
  obtain ⟨c1, c2⟩ := hc (cv1 o) (by rw [ho]; rfl)
  have toa : zTo h1 ((.ref 0, t) :: ai.map (fun x => (Value.int x, 0))) := zTo_cons (fun i hi => by cases hi; exact ⟨hz.1, Or.inl hz.2⟩) (zTo_ints ai)
  have eas : ((Value.ref 0, t) :: ai.map (fun x => ((Value.int x, 0) : Value × Nat))).map (fun q => zcv ρ1 q.1) = Value.ref b1 :: ai.map Value.int := by
    rw [List.map_cons, zints, ← e1]
    rfl
  have met := c2 wf1 toa D cA ρ1 H.size
  rw [eas] at met
  have hDself : va_D (zAf ρ1 (zN h1) H.size) (zWs cA ρ1 h1) := hD1.weaken (fun i q hq _ => Or.inl ⟨i, (zWs_get hq).1, (zWs_get hq).2.symm⟩)
  have l1 := c1.1
  have l2 := c1.2.1
  have run := hrun ρ1 H locs Lc cells slots _ _ _ _ _ _ hC hP1 e1 met rfl rfl rfl rfl
    (fun a U g mk q => ⟨q.1, q.2.1, zFx.same rfl q.2.2.1, q.2.2.2.1, q.2.2.2.2⟩)
    (fun U hU hW => ⟨rfl, by rw [hU], zFx.moved hW hC.2.1, by rw [hU]; exact hP1, hDself⟩) lv.1 (by show cells + _ ≤ 600000; omega) (by show slots + _ ≤ 7302250; omega)
  intro T hT X
  obtain ⟨v, st₀, t', T', L', h0, X', hL, f1, f2, ⟨⟨ρ', x1, x2, x3', x4⟩, x5, x6, x7⟩, stp⟩ := run T hT X
  have hvv : v = (cv1 o).1 := by
    have : v = (cv1 o).1.map (zcv ρ') := by cases x2; rfl
    rw [this, hv]
  subst hvv
  have hA : ∀ q, zAf ρ1 (zN h1) H.size q → zA0 s q := by
    intro q hq
    rcases hq with ⟨i, hi, rfl⟩ | hq
    · exact hD1.2 i _ (zWs_at hi)
    · exact Nat.le_trans hS.1 hq
  obtain ⟨z1, z2⟩ := x5
  rw [h0] at z1 z2
  have hS' : va_S (zA0 s) s.heap T'.heap (locs ++ L') := by
    refine ⟨Nat.le_trans hS.1 (by rw [f1]; exact z1), fun q g1 g2 => ?_, fun q hq => ?_⟩
    · rw [f1, z2 q (Nat.lt_of_lt_of_le g1 hS.1) (fun z => g2 (hA q z))]
      exact hS.2.1 q g1 g2
    · rcases List.mem_append.mp hq with hq | hq
      · exact hS.2.2 q hq
      · exact hA _ (hL q hq)
  -- the other heap: none of its cells may change
  have out : ∀ j, j < zN h2 → ρ2 j < H.size ∧ ¬ zAf ρ1 (zN h1) H.size (ρ2 j) := by
    intro j hj
    have hlt : ρ2 j < H.size := (hP2 j _ (zWs_at hj)).lt
    refine ⟨hlt, fun q => ?_⟩
    rcases q with ⟨i, hi, q⟩ | q
    · exact hdis i j hi hj q
    · omega
  have hP2' : va_P D zCl (zWs cA ρ2 h2) T'.heap := hP2.kept (fun j q hq => by
    obtain ⟨a1, a2⟩ := zWs_get hq
    rw [a2, f1, z2 _ (out j a1).1 (out j a1).2])
  have hdis' : ∀ i j, i < zN (cv1 o).2 → j < zN h2 → ρ' i ≠ ρ2 j := by
    intro i j hi hj q
    have := x4.2 i _ (zWs_at hi)
    rw [show (ρ' i, zE cA ρ' (cv1 o).2 i).1 = ρ' i from rfl, q] at this
    exact (out j hj).2 this
  obtain ⟨t2, a1, b1'⟩ := k hC ρ' ρ2 T'.heap (locs ++ L') Lc _ _ ⟨⟨by rw [f1]; exact x3', x4.weaken (fun i q _ hq => hA _ hq), (x1 0 hz.1).trans e1, x6⟩, ⟨hP2', hD2, e2, wf2⟩, hdis', hS', rfl, rfl⟩ lv T' rfl (by
    have ea : cells + (zN (cv1 o).2 - zN h1) = zN (cv1 o).2 + zN h2 := by omega
    have eb : slots + (zS (cv1 o).2 - zS h1) = zS (cv1 o).2 + zS h2 := by omega
    rw [← ea, ← eb]
    exact X')
  exact ⟨t2, stp t2 a1, b1'⟩
theorem u0_callI {y : MethodName} {N : Zm} {g1 : Option Zh} {t idx : Nat} {rest : List Value} (hc : Zc l y N 0 h1 [(.ref 0, t)] (g1.map zoV)) {o : Zh} (ho : g1 = some o) (hz : 0 < zN h1 ∧ zK h1 0 = t) (hb : zN o + zN h2 ≤ 600000 ∧ zS o + zS h2 ≤ 7302250) (hcd : zCd y N 0) (hyn : y.name = "<init>") (hrn : mR N = none) (hw : Cond.methodLink RL idx y ∈ zT ∧ Cond.instanceMethod y ∈ zT ∧ Cond.initialized y.cls ∈ zT) (hrm : mF N + 1 ≤ 9 ∧ 8 + (mL N + 11) + mW N ≤ 334) (hl : (rest.map fun v => v.category).sum ≤ 8) (hd : zDl pc (.invokespecial idx) 3 pc2)
    (k : U0 p l e s m below meth c b L xs D cA b1 b2 pc2 ls rest o h2) : U0 p l e s m below meth c b L xs D cA b1 b2 pc ls (.ref b1 :: rest) h1 h2 := by
  obtain ⟨hd, rfl⟩ := hd
  refine u0_run (ai := []) (cv1 := zoV) hc ho hz (fun _ => rfl) hb (fun ρ H locs Lc cells slots mc ms Pc Qc free rm hC hP e1 hM q1 q2 q3 q4 hbl hpre hsz f1 f2 => ?_) k
  obtain ⟨hx, hbc, hr, hml, hown, hts, -⟩ := hC.1
  rw [hrn] at hM
  refine va_runI (As := []) (b := b1) (Ts := lw_tbl) (own := R_law) ⟨hx, hbc, hml, hown, hts⟩ hM (cwI 0 hts (zGoodL ?_) rfl q1 q2 (hts _ (zT_tbl hw.2.2)) (hts _ (zT_tbl hw.1)) (hts _ (zT_tbl hw.2.1)) hyn hcd.2 ⟨by rw [q3]; exact hrm.1, by rw [q4]; exact hrm.2⟩) ⟨hbl, hpre⟩ rfl rfl hsz rfl (lv_room hl) hd ⟨f1, f2⟩
  intro w hw'
  rcases List.mem_cons.mp hw' with rfl | hw'
  · rw [← hrn]; exact hcd.1
  · exact hw'
theorem u0_dup {v : Value} (hd : zDl pc .dup 1 pc2) (hc : v.category = 1) (k : U0 p l e s m below meth c b L xs D cA b1 b2 pc2 ls (v :: v :: st) h1 h2) : U0 p l e s m below meth c b L xs D cA b1 b2 pc ls (v :: st) h1 h2 := by
  obtain ⟨hd, rfl⟩ := hd
  intro hC ρ1 ρ2 H locs Lc cells slots w lv
  exact lv_dup hC.1.1 hC.1.2.1 hd hc (k hC ρ1 ρ2 H locs Lc cells slots w lv)
theorem u0_iconst {n : Int} {v : Int32} (hd : zDl pc (.iconst n) 1 pc2) (hv : Int32.ofInt n = v) (k : U0 p l e s m below meth c b L xs D cA b1 b2 pc2 ls (.int v :: st) h1 h2) : U0 p l e s m below meth c b L xs D cA b1 b2 pc ls st h1 h2 := by
  obtain ⟨hd, rfl⟩ := hd
  intro hC ρ1 ρ2 H locs Lc cells slots w lv
  exact lv_iconst hC.1.1 hC.1.2.1 hd hv (k hC ρ1 ρ2 H locs Lc cells slots w lv)
theorem u0_astore {j : Fin 4} {i x : Nat} (hd : zDl pc (.astore_n j) 1 pc2) (hi : (j : Nat) = i) (hn : i < 4) (hl : (i, Value.ref x) :: ls.filter (fun q => !(q.1 == i) && !(q.1 + 1 == i && q.2.category == 2)) = ls2) (k : U0 p l e s m below meth c b L xs D cA b1 b2 pc2 ls2 st h1 h2) : U0 p l e s m below meth c b L xs D cA b1 b2 pc ls (.ref x :: st) h1 h2 := by
  obtain ⟨hd, rfl⟩ := hd
  intro hC ρ1 ρ2 H locs Lc cells slots w lv
  exact lv_astore_n hC.1.1 hC.1.2.1 hd hi lv hn hl (fun Lc' lv' => k hC ρ1 ρ2 H locs Lc' cells slots w lv')
theorem u0_istore {j : Fin 4} {i : Nat} {x : Int32} (hd : zDl pc (.istore_n j) 1 pc2) (hi : (j : Nat) = i) (hn : i < 4) (hl : (i, Value.int x) :: ls.filter (fun q => !(q.1 == i) && !(q.1 + 1 == i && q.2.category == 2)) = ls2) (k : U0 p l e s m below meth c b L xs D cA b1 b2 pc2 ls2 st h1 h2) : U0 p l e s m below meth c b L xs D cA b1 b2 pc ls (.int x :: st) h1 h2 := by
  obtain ⟨hd, rfl⟩ := hd
  intro hC ρ1 ρ2 H locs Lc cells slots w lv
  exact lv_istore_n hC.1.1 hC.1.2.1 hd hi lv hn hl (fun Lc' lv' => k hC ρ1 ρ2 H locs Lc' cells slots w lv')
theorem u0_new {t idx : Nat} {C : String} {T : u_T} {N : Nat} {ty : Nat → FieldType} (ci : zCi t C T N ty) (hcl : Cond.classLink RL idx C ∈ zT) (hins : Cond.instantiable C N ∈ zT) (hini : Cond.initialized C ∈ zT) (hz : zN h1 = 0 ∧ zS h1 = 0) (hb : zN h2 + 1 ≤ 600000 ∧ zS h2 + N ≤ 7302250) (hd : zDl pc (.new idx) 3 pc2) (k : ∀ q, U0 p l e s m below meth c b L xs D cA q b2 pc2 ls (.ref q :: st) (zA h1 t N) h2) : U0 p l e s m below meth c b L xs D cA b1 b2 pc ls st h1 h2 := by
  obtain ⟨hd, rfl⟩ := hd
  intro hC ρ1 ρ2 H locs Lc cells slots w lv
  obtain ⟨⟨hP1, hD1, e1, wf1⟩, ⟨hP2, hD2, e2, wf2⟩, hdis, hS, hce, hsl⟩ := w
  obtain ⟨hx, hbc, hr, hml, hown, hts, -⟩ := hC.1
  refine va_new (own := R_law) (fs := zFs (zup ρ1 (zN h1) 0) (zA h1 t N) (zN h1) t) (Ts := lw_tbl) hx hbc hts (fun w hw => zT_tbl (ci.2.1 w hw)) ty ci.2.2.1 hown (hts _ (zT_tbl hcl)) (hts _ (zT_tbl hins)) (hts _ (zT_tbl hini)) hC.2.1.1 hP2 hD2 hS (fun q hq => hq) ci.1 (fun j hj => ?_) (by show cells + 1 ≤ 600000; omega) (by show slots + N ≤ 7302250; omega) hd (fun q H1 q1 q2 q3 => ?_)
  · have hl : j < (zF t).length := by rw [ci.2.2.2.2.1]; exact hj
    show _ = vp_V _ j
    unfold vp_V
    rw [List.getD_eq_getElem?_getD, zFs_at hl]
    have hty := ci.2.2.2.2.2.2 j hj
    show _ = zFv _ _ _ _ _
    unfold zFv
    rw [zI_A, zJ_A, zR_A]
    revert hty
    generalize (zF t).getD j 0 = cc
    intro hty
    cases hq : ty j <;> rw [hq] at hty <;> simp [zTy] at hty <;> first | (subst hty; rfl) | (rw [if_neg (by omega), if_neg (by omega)]; rfl)
  · have hE : zE cA (zup ρ1 (zN h1) q) (zA h1 t N) (zN h1) = .inr (t, zFs (zup ρ1 (zN h1) 0) (zA h1 t N) (zN h1) t) := by
      rw [zE_o zK_A ci.2.2.2.2.2.1]
      unfold zFs zFv
      simp only [zR_A]
      rfl
    have hws : zWs cA (zup ρ1 (zN h1) q) (zA h1 t N) = [(q, .inr (t, zFs (zup ρ1 (zN h1) 0) (zA h1 t N) (zN h1) t))] := by
      rw [zWs_A wf1 hE]
      simp [zWs, hz.1]
    have hlen : (zWs cA ρ2 h2).length = zN h2 := by simp [zWs]
    have hq1 : ∀ (i : Nat) (x : Nat × va_E), (zWs cA ρ2 h2)[i]? = some x → (zWs cA ρ2 h2 ++ [(q, (Sum.inr (t, zFs (zup ρ1 (zN h1) 0) (zA h1 t N) (zN h1) t) : va_E))])[i]? = some x := fun i x hx => by
      rw [List.getElem?_append_left (List.getElem?_eq_some_iff.mp hx).1]; exact hx
    have hlast : (zWs cA ρ2 h2 ++ [(q, (Sum.inr (t, zFs (zup ρ1 (zN h1) 0) (zA h1 t N) (zN h1) t) : va_E))])[zN h2]? = some (q, Sum.inr (t, zFs (zup ρ1 (zN h1) 0) (zA h1 t N) (zN h1) t)) := by
      rw [List.getElem?_append_right (by omega), hlen, Nat.sub_self]; rfl
    refine k q hC (zup ρ1 (zN h1) q) ρ2 H1 locs Lc (cells + 1) (slots + N) ⟨⟨?_, ?_, ?_, zWf_A wf1⟩, ⟨fun i x hx => q1 i x (hq1 i x hx), ?_, e2, wf2⟩, ?_, q3, ?_, ?_⟩ lv
    · rw [hws]
      intro i x hx
      cases i with
      | zero => cases hx; exact q1 (zN h2) _ hlast
      | succ i => simp at hx
    · rw [hws]
      refine ⟨fun i j x y hi hj _ => ?_, fun i x hx => ?_⟩
      · cases i with
        | zero => cases j with
          | zero => rfl
          | succ j => simp at hj
        | succ i => simp at hi
      · cases i with
        | zero => cases hx; exact q2.2 (zN h2) _ hlast
        | succ i => simp at hx
    · simp [zup, hz.1]
    · exact ⟨fun i j x y hi hj e => q2.1 i j x y (hq1 i x hi) (hq1 j y hj) e, fun i x hx => q2.2 i x (hq1 i x hx)⟩
    · intro i j hi hj hq
      have hi0 : i = 0 := by
        have : i < h1.1 + 1 := hi
        have hz1 : h1.1 = 0 := hz.1
        omega
      subst hi0
      have : zup ρ1 (zN h1) q 0 = q := by simp [zup, hz.1]
      rw [this] at hq
      have := q2.1 (zN h2) j _ _ hlast (hq1 j _ (zWs_at hj)) hq
      omega
    · show cells + 1 = zN h1 + 1 + zN h2
      omega
    · show slots + N = zS h1 + N + zS h2
      omega
theorem zvin {i L k : Nat} {x : Int32} (hx : x = nI k) (h : i + k < L) (hL : L ≤ 3584) : vp_in (nI i + x) L := by
  rw [hx, nI_add]
  exact vp_in_nI h (by omega)
theorem zloop (Inv : Nat → Zh → Zh → Prop) (hA : zAll Inv) (hB : zBd Inv) (hSk : ∀ k hx hm, k < 512 → Inv k hx hm → Inv (k + 1) hx hm) (hL : L ≤ 3584) : ∀ (n k i : Nat) (hx hm : Zh), i = 7 * k → i ≤ L → L - i < n → Inv k hx hm → U p l e s m below meth c b L xs D cA la lb (nI i) la lb 18 [] hx hm := by
  intro n
  induction n with
  | zero => intro k i hx hm _ _ h _; omega
  | succ n ih =>
    intro k i hx hm hik hiL hn hI
    obtain ⟨s0, s1, s2, s3, s4, s5, s6, s7, s8, s9, s10, s11, s12, s13, s14, s15, s16, s17, s18, s19, s20, s21, s22, s23, s24, s25, s26, s27, s28, s29, s30, s31, s32, s33, s34, s35, s36, s37, s38, s39, s40, s41, s42, s43⟩ := id hA
    refine u_iload3 (eL_0 10 rfl) ?_
    refine u_aload0 (eL_0 11 rfl) ?_
    refine u_slen (eL_0 12 rfl) ?_
    refine u_bipush (eL_0 13 rfl) zk_bipush_7 ?_
    refine u_isub (eL_0 14 rfl) ?_
    have e7 : (Int32.ofNat L - 7).toInt = (L : Int) - 7 := by
      have := pk_sub_toInt (a := L) (b := 7) (by omega) (by omega)
      exact this
    have ei : (nI i).toInt = (i : Int) := nI_toInt (by omega)
    refine u_gt (eL_0 15 rfl) (t := 1911) (by decide) (fun hq => ?_) (fun hq => ?_)
    · refine u_iconst (eL_28 31 rfl) zk_iconst_1 ?_
      exact u_ret (eL_28 32 rfl) (hB k hx hm (by omega) hI).2.2
    · have hle : i + 7 ≤ L := by
        have h1 := Int32.not_lt.mp hq
        have h2 := Int32.le_iff_toInt_le.mp h1
        rw [e7, ei] at h2
        omega
      have hk : k < 512 := by omega
      have hv : zvi (nI i) L := ⟨zvin (k := 1) rfl (by omega) hL, zvin (k := 2) rfl (by omega) hL, zvin (k := 3) rfl (by omega) hL, zvin (k := 4) rfl (by omega) hL, zvin (k := 5) rfl (by omega) hL, zvin (k := 6) rfl (by omega) hL⟩
      have K : ∀ k' hx' hm', k' = k + 1 ∨ True → Inv k' hx' hm' → k' = k + 1 → U p l e s m below meth c b L xs D cA la lb (nI i) la lb 1905 [] hx' hm' := by
        intro k' hx' hm' _ hI' hk'
        subst hk'
        refine u_iinc (eL_28 29 rfl) (y := nI (i + 7)) (by rw [show (7 : Int32) = nI 7 from rfl, nI_add]) ?_
        refine u_goto (eL_28 30 rfl) (t := 18) (by decide) ?_
        exact ih (k + 1) (i + 7) hx' hm' (by omega) hle (by omega) hI'
      have K1 : ∀ hx' hm', Inv (k + 1) hx' hm' → U p l e s m below meth c b L xs D cA la lb (nI i) la lb 1905 [] hx' hm' := fun hx' hm' hI' => K (k + 1) hx' hm' (Or.inr trivial) hI' rfl
      refine u_aload0 (eL_0 16 rfl) ?_
      refine u_iload3 (eL_0 17 rfl) ?_
      refine u_sld (vp_in_nI (by omega) (by omega)) (eL_0 18 rfl) ?_
      refine u_bipush (eL_0 19 rfl) zk_bipush_63 ?_
      refine u_iand (eL_0 20 rfl) ?_
      generalize xs (nI i).toNatClampNeg = z
      obtain ⟨j, hj, ej⟩ := pk_andE z (m := 63) 6 (by decide)
      rw [ej]
      have hjT : (nI j).toInt = (j : Int) := nI_toInt (by omega)
      rcases Nat.lt_or_ge j 44 with hj4 | hj4
      · rcases (show j = 0 ∨ j = 1 ∨ j = 2 ∨ j = 3 ∨ j = 4 ∨ j = 5 ∨ j = 6 ∨ j = 7 ∨ j = 8 ∨ j = 9 ∨ j = 10 ∨ j = 11 ∨ j = 12 ∨ j = 13 ∨ j = 14 ∨ j = 15 ∨ j = 16 ∨ j = 17 ∨ j = 18 ∨ j = 19 ∨ j = 20 ∨ j = 21 ∨ j = 22 ∨ j = 23 ∨ j = 24 ∨ j = 25 ∨ j = 26 ∨ j = 27 ∨ j = 28 ∨ j = 29 ∨ j = 30 ∨ j = 31 ∨ j = 32 ∨ j = 33 ∨ j = 34 ∨ j = 35 ∨ j = 36 ∨ j = 37 ∨ j = 38 ∨ j = 39 ∨ j = 40 ∨ j = 41 ∨ j = 42 ∨ j = 43 by omega) with rfl | rfl | rfl | rfl | rfl | rfl | rfl | rfl | rfl | rfl | rfl | rfl | rfl | rfl | rfl | rfl | rfl | rfl | rfl | rfl | rfl | rfl | rfl | rfl | rfl | rfl | rfl | rfl | rfl | rfl | rfl | rfl | rfl | rfl | rfl | rfl | rfl | rfl | rfl | rfl | rfl | rfl | rfl | rfl
        · exact u_tab (eL_0 21 rfl) 0 hjT rfl (by decide) rfl (t := 224) (by decide) (lc_chain s0 hB hk hv hI K1)
        · exact u_tab (eL_0 21 rfl) 1 hjT rfl (by decide) rfl (t := 293) (by decide) (lc_act s1 hB hk hv hI K1)
        · exact u_tab (eL_0 21 rfl) 2 hjT rfl (by decide) rfl (t := 327) (by decide) (lc_turned s2 hB hk hv hI K1)
        · exact u_tab (eL_0 21 rfl) 3 hjT rfl (by decide) rfl (t := 350) (by decide) (lc_size s3 hB hk hv hI K1)
        · exact u_tab (eL_0 21 rfl) 4 hjT rfl (by decide) rfl (t := 383) (by decide) (lc_head s4 hB hk hv hI K1)
        · exact u_tab (eL_0 21 rfl) 5 hjT rfl (by decide) rfl (t := 426) (by decide) (lc_entry s5 hB hk hv hI K1)
        · exact u_tab (eL_0 21 rfl) 6 hjT rfl (by decide) rfl (t := 480) (by decide) (lc_poly s6 hB hk hv hI K1)
        · exact u_tab (eL_0 21 rfl) 7 hjT rfl (by decide) rfl (t := 524) (by decide) (lc_above s7 hB hk hv hI K1)
        · exact u_tab (eL_0 21 rfl) 8 hjT rfl (by decide) rfl (t := 567) (by decide) (lc_often s8 hB hk hv hI K1)
        · exact u_tab (eL_0 21 rfl) 9 hjT rfl (by decide) rfl (t := 610) (by decide) (lc_whole s9 hB hk hv hI K1)
        · exact u_tab (eL_0 21 rfl) 10 hjT rfl (by decide) rfl (t := 643) (by decide) (lc_power s10 hB hk hv hI K1)
        · exact u_tab (eL_0 21 rfl) 11 hjT rfl (by decide) rfl (t := 687) (by decide) (lc_powerOf s11 hB hk hv hI K1)
        · exact u_tab (eL_0 21 rfl) 12 hjT rfl (by decide) rfl (t := 721) (by decide) (lc_rest s12 hB hk hv hI K1)
        · exact u_tab (eL_0 21 rfl) 13 hjT rfl (by decide) rfl (t := 775) (by decide) (lc_seen s13 hB hk hv hI K1)
        · exact u_tab (eL_0 21 rfl) 14 hjT rfl (by decide) rfl (t := 851) (by decide) (lc_weights s14 hB hk hv hI K1)
        · exact u_tab (eL_0 21 rfl) 15 hjT rfl (by decide) rfl (t := 904) (by decide) (lc_weightsOf s15 hB hk hv hI K1)
        · exact u_tab (eL_0 21 rfl) 16 hjT rfl (by decide) rfl (t := 957) (by decide) (lc_weight s16 hB hk hv hI K1)
        · exact u_tab (eL_0 21 rfl) 17 hjT rfl (by decide) rfl (t := 991) (by decide) (lc_rowEntry s17 hB hk hv hI K1)
        · exact u_tab (eL_0 21 rfl) 18 hjT rfl (by decide) rfl (t := 1045) (by decide) (lc_unlike s18 hB hk hv hI K1)
        · exact u_tab (eL_0 21 rfl) 19 hjT rfl (by decide) rfl (t := 1088) (by decide) (lc_ice s19 hB hk hv hI K1)
        · exact u_tab (eL_0 21 rfl) 20 hjT rfl (by decide) rfl (t := 1131) (by decide) (lc_walls s20 hB hk hv hI K1)
        · exact u_tab (eL_0 21 rfl) 21 hjT rfl (by decide) rfl (t := 1164) (by decide) (lc_exchange s21 hB hk hv hI K1)
        · exact u_tab (eL_0 21 rfl) 22 hjT rfl (by decide) rfl (t := 1207) (by decide) (lc_add s22 hB hk hv hI K1)
        · exact u_tab (eL_0 21 rfl) 23 hjT rfl (by decide) rfl (t := 1270) (by decide) (lc_clear s23 hB hk hv hI K1)
        · exact u_tab (eL_0 21 rfl) 24 hjT rfl (by decide) rfl (t := 1293) (by decide) (lc_asChain s24 hB hk hv hI K1)
        · exact u_tab (eL_0 21 rfl) 25 hjT rfl (by decide) rfl (t := 1316) (by decide) (lc_join s25 hB hk hv hI K1)
        · exact u_tab (eL_0 21 rfl) 26 hjT rfl (by decide) rfl (t := 1369) (by decide) (lc_shift s26 hB hk hv hI K1)
        · exact u_tab (eL_0 21 rfl) 27 hjT rfl (by decide) rfl (t := 1412) (by decide) (lc_word s27 hB hk hv hI K1)
        · exact u_tab (eL_0 21 rfl) 28 hjT rfl (by decide) rfl (t := 1456) (by decide) (lc_words s28 hB hk hv hI K1)
        · exact u_tab (eL_0 21 rfl) 29 hjT rfl (by decide) rfl (t := 1479) (by decide) (lc_bracket s29 hB hk hv hI K1)
        · exact u_tab (eL_0 21 rfl) 30 hjT rfl (by decide) rfl (t := 1512) (by decide) (lc_kept s30 hB hk hv hI K1)
        · exact u_tab (eL_0 21 rfl) 31 hjT rfl (by decide) rfl (t := 1535) (by decide) (lc_undo s31 hB hk hv hI K1)
        · exact u_tab (eL_0 21 rfl) 32 hjT rfl (by decide) rfl (t := 1548) (by decide) (lc_redo s32 hB hk hv hI K1)
        · exact u_tab (eL_0 21 rfl) 33 hjT rfl (by decide) rfl (t := 1561) (by decide) (lc_sheet s33 hB hk hv hI K1)
        · exact u_tab (eL_0 21 rfl) 34 hjT rfl (by decide) rfl (t := 1604) (by decide) (lc_lose s34 hB hk hv hI K1)
        · exact u_tab (eL_0 21 rfl) 35 hjT rfl (by decide) rfl (t := 1627) (by decide) (lc_put s35 hB hk hv hI K1)
        · exact u_tab (eL_0 21 rfl) 36 hjT rfl (by decide) rfl (t := 1670) (by decide) (lc_cell s36 hB hk hv hI K1)
        · exact u_tab (eL_0 21 rfl) 37 hjT rfl (by decide) rfl (t := 1714) (by decide) (lc_copy s37 hB hk hv hI K1)
        · exact u_tab (eL_0 21 rfl) 38 hjT rfl (by decide) rfl (t := 1777) (by decide) (lc_tell s38 hB hk hv hI K1)
        · exact u_tab (eL_0 21 rfl) 39 hjT rfl (by decide) rfl (t := 1800) (by decide) (lc_name s39 hB hk hv hI K1)
        · exact u_tab (eL_0 21 rfl) 40 hjT rfl (by decide) rfl (t := 1823) (by decide) (lc_as s40 hB hk hv hI K1)
        · exact u_tab (eL_0 21 rfl) 41 hjT rfl (by decide) rfl (t := 1856) (by decide) (lc_trace s41 hB hk hv hI K1)
        · exact u_tab (eL_0 21 rfl) 42 hjT rfl (by decide) rfl (t := 1869) (by decide) (lc_fault s42 hB hk hv hI K1)
        · exact u_tab (eL_0 21 rfl) 43 hjT rfl (by decide) rfl (t := 1882) (by decide) (lc_many s43 hB hk hv hI K1)
      · exact u_tabD (eL_0 21 rfl) (t := 1905) (by rw [hjT]; omega) (by decide) (K1 hx hm (hSk k hx hm hk hI))
end LB
