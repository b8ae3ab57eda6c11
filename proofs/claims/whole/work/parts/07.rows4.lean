section ZP
variable {l : Launch} {α : Type} {M : Zm} {n0 s0 τ : Nat} {cvt : α → Option Value × Zh} {pc : Nat} {ls ls2 : List (Option (Value × Nat))} {st : List (Value × Nat)} {h : Zh} {g : Option α}
theorem zW_put {p : Program} {e : Env} {R : Room} {s : State} {m : MethodId} {args : Array Value} {below : List Frame} {meth : Method} {c : Code} {D : va_G} {cA : Nat → ClassId} {ρ : Nat → Nat} {H H0 : Heap} {locs : List Loc} {L : Array Slot} {cells slots : Nat} {Q : State → Prop} {A : Nat → Prop} {h' : Zh} {i idx τ' k cc : Nat} {fin : Bool} {dc : String} {rest : List Value}
    (cx : zCx M p R s m args meth c D cA) (hP : va_P D zCl (zWs cA ρ h) H) (hD : va_D A (zWs cA ρ h)) (hS : va_S A H0 H locs) (hi : i < zN h) (hs : zSub (zK h i) τ') (hf : zFd (mO M) idx τ' k cc fin dc) (hfin : fin = false ∨ (mN M = "<init>" ∧ dc = mO M)) {v : Value} (hv : ∀ ty, zTy ty cc = true → narrow ty v = v ∧ fits ty v = true)
    (hN : zN h' = zN h) (hK : zK h' i = zK h i) (ho : ∀ j, j ≠ i → zE cA ρ h' j = zE cA ρ h j) (e1 : zFv ρ h' i k cc = v) (e2 : ∀ j c, j ≠ k → zFv ρ h' i j c = zFv ρ h i j c) (hd : decode (mC M) pc = .ok (.putfield idx, 3))
    (kk : ∀ (H1 : Heap) (locs1 : List Loc), va_P D zCl (zWs cA ρ h') H1 → va_D A (zWs cA ρ h') → va_S A H0 H1 locs1 → W p l e R s m args below meth c H1 locs1 cells slots Q (F0 m (pc + 3) L rest)) : W p l e R s m args below meth c H locs cells slots Q (F0 m pc L (v :: .ref (ρ i) :: rest)) := by
  obtain ⟨C, T, N, ty, ci, hk, hlk, hfb, hdc, hcc⟩ := hf _ hs
  have hlen : k < (zF (zK h i)).length := by rw [ci.2.2.2.2.1]; exact hk
  have hat : (zWs cA ρ h)[i]? = some (ρ i, .inr (zK h i, zFs ρ h i (zK h i))) := (zWs_at hi).trans (by rw [zE_o rfl ci.2.2.2.2.2.1])
  have hw : zWs cA ρ h' = (zWs cA ρ h).set i (ρ i, .inr (zK h i, (zFs ρ h i (zK h i)).set k v)) := by
    refine zWs_set hN ho ?_
    rw [zE_o hK ci.2.2.2.2.2.1, zFs_set (v := v) hlen (by rw [hcc]; exact e1) (fun j hj => e2 j _ hj)]
  have hty := ci.2.2.2.2.2.2 k hk
  rw [hcc] at hty
  obtain ⟨hn, hft⟩ := hv _ hty
  rw [hw] at kk
  rcases hfin with hfin | ⟨hnm, hdo⟩
  · exact va_put cx.1 cx.2.1 cx.2.2.2.2.1 ci.2.1 ty ci.2.2.1 ci.2.2.2.1 cx.2.2.2.1 cx.2.2.2.2.2.2.2.2.1.1 hP hD hS i hat ci.1 k hk (cx.2.2.2.2.1 _ hlk) (fun x hx => hx) (hfb.trans hfin) (ci.2.2.1 k hk) hn hft (by rw [zFs_len]; exact hlen) hd kk
  · cases fin with
    | false => exact va_put cx.1 cx.2.1 cx.2.2.2.2.1 ci.2.1 ty ci.2.2.1 ci.2.2.2.1 cx.2.2.2.1 cx.2.2.2.2.2.2.2.2.1.1 hP hD hS i hat ci.1 k hk (cx.2.2.2.2.1 _ hlk) (fun x hx => hx) hfb (ci.2.2.1 k hk) hn hft (by rw [zFs_len]; exact hlen) hd kk
    | true => exact va_putF cx.1 cx.2.1 cx.2.2.2.2.1 ci.2.1 ty ci.2.2.1 ci.2.2.2.1 cx.2.2.2.1 cx.2.2.2.2.2.2.2.2.1.1 hP hD hS i hat ci.1 k hk (cx.2.2.2.2.1 _ hlk) (fun x hx => hx) hfb (cx.2.2.2.2.2.2.2.1.trans hnm) (hdc.trans hdo) (ci.2.2.1 k hk) hn hft (by rw [zFs_len]; exact hlen) hd kk
theorem zTy_0 {ty : FieldType} (h : zTy ty 0 = true) : ty = .int := by
  cases ty <;> simp [zTy] at h <;> rfl
theorem zTy_1 {ty : FieldType} (h : zTy ty 1 = true) : ty = .long := by
  cases ty <;> simp [zTy] at h <;> rfl
theorem zTy_2 {ty : FieldType} (h : zTy ty 2 = true) : ty = .boolean := by
  cases ty <;> simp [zTy] at h <;> rfl
theorem zTy_r {ty : FieldType} {c : Nat} (hc : 100 ≤ c) (h : zTy ty c = true) (o : Option Nat) : narrow ty (va_rf o) = va_rf o ∧ fits ty (va_rf o) = true := by
  cases ty <;> cases o <;> first | (constructor <;> rfl) | (simp [zTy] at h <;> omega)
theorem v_putI {i idx τ' k c a : Nat} {fin : Bool} {dc : String} {x : Int32} (hf : zFd (mO M) idx τ' k c fin dc) (hc : c = 0) (hfin : fin = false ∨ (mN M = "<init>" ∧ dc = mO M)) (hd : decode (mC M) pc = .ok (.putfield idx, 3)) (kk : V l M n0 s0 τ cvt (pc + 3) ls st (zsI h i k x) g) : V l M n0 s0 τ cvt pc ls ((.int x, a) :: (.ref i, τ') :: st) h g := by
  intro o ho
  obtain ⟨h1, h2⟩ := kk o ho
  refine ⟨h1, fun wf tl to p e R s m args below meth c' D cA ρ0 ρ H locs L cells slots cx rl lv r1 r2 => ?_⟩
  obtain ⟨hi, hs⟩ := to.tl.hd i rfl
  subst hc
  refine zW_put (v := .int x) (h' := zsI h i k x) cx rl.2.1 rl.2.2.1 rl.2.2.2.1 hi hs hf hfin (fun ty hty => by rw [zTy_0 hty]; exact ⟨rfl, rfl⟩) rfl rfl (fun j hj => zE_sI hj) (by simp [zFv, zI, zsI, zU]) (fun j c hj => by simp [zFv, zI, zJ, zR, zsI, zU, hj]) hd (fun H1 locs1 q1 q2 q3 => ?_)
  exact h2 wf tl to.tl.tl p e R s m args below meth c' D cA ρ0 ρ H1 locs1 L cells slots cx ⟨rl.1, q1, q2, q3, rl.2.2.2.2⟩ lv r1 r2
theorem v_putZ {i idx τ' k c a : Nat} {fin : Bool} {dc : String} {x : Int32} (hf : zFd (mO M) idx τ' k c fin dc) (hc : c = 2) (hx : x = 0 ∨ x = 1) (hfin : fin = false ∨ (mN M = "<init>" ∧ dc = mO M)) (hd : decode (mC M) pc = .ok (.putfield idx, 3)) (kk : V l M n0 s0 τ cvt (pc + 3) ls st (zsI h i k x) g) : V l M n0 s0 τ cvt pc ls ((.int x, a) :: (.ref i, τ') :: st) h g := by
  intro o ho
  obtain ⟨h1, h2⟩ := kk o ho
  refine ⟨h1, fun wf tl to p e R s m args below meth c' D cA ρ0 ρ H locs L cells slots cx rl lv r1 r2 => ?_⟩
  obtain ⟨hi, hs⟩ := to.tl.hd i rfl
  subst hc
  refine zW_put (v := .int x) (h' := zsI h i k x) cx rl.2.1 rl.2.2.1 rl.2.2.2.1 hi hs hf hfin (fun ty hty => by rw [zTy_2 hty]; rcases hx with rfl | rfl <;> exact ⟨by decide, by decide⟩) rfl rfl (fun j hj => zE_sI hj) (by simp [zFv, zI, zsI, zU]) (fun j c hj => by simp [zFv, zI, zJ, zR, zsI, zU, hj]) hd (fun H1 locs1 q1 q2 q3 => ?_)
  exact h2 wf tl to.tl.tl p e R s m args below meth c' D cA ρ0 ρ H1 locs1 L cells slots cx ⟨rl.1, q1, q2, q3, rl.2.2.2.2⟩ lv r1 r2
theorem v_putJ {i idx τ' k c a : Nat} {fin : Bool} {dc : String} {x : Int64} (hf : zFd (mO M) idx τ' k c fin dc) (hc : c = 1) (hfin : fin = false ∨ (mN M = "<init>" ∧ dc = mO M)) (hd : decode (mC M) pc = .ok (.putfield idx, 3)) (kk : V l M n0 s0 τ cvt (pc + 3) ls st (zsJ h i k x) g) : V l M n0 s0 τ cvt pc ls ((.long x, a) :: (.ref i, τ') :: st) h g := by
  intro o ho
  obtain ⟨h1, h2⟩ := kk o ho
  refine ⟨h1, fun wf tl to p e R s m args below meth c' D cA ρ0 ρ H locs L cells slots cx rl lv r1 r2 => ?_⟩
  obtain ⟨hi, hs⟩ := to.tl.hd i rfl
  subst hc
  refine zW_put (v := .long x) (h' := zsJ h i k x) cx rl.2.1 rl.2.2.1 rl.2.2.2.1 hi hs hf hfin (fun ty hty => by rw [zTy_1 hty]; exact ⟨rfl, rfl⟩) rfl rfl (fun j hj => zE_sJ hj) (by simp [zFv, zJ, zsJ, zU]) (fun j c hj => by simp [zFv, zI, zJ, zR, zsJ, zU, hj]) hd (fun H1 locs1 q1 q2 q3 => ?_)
  exact h2 wf tl to.tl.tl p e R s m args below meth c' D cA ρ0 ρ H1 locs1 L cells slots cx ⟨rl.1, q1, q2, q3, rl.2.2.2.2⟩ lv r1 r2
theorem zWf_sR {i k : Nat} {r : Option Nat} (wf : zWf h) (hr : ∀ j, r = some j → j < zN h ∧ (i < zN h → zSub (zK h j) (zTc (zK h i) k))) : zWf (zsR h i k r) := by
  intro a b j hj
  by_cases q : a = i ∧ b = k
  · obtain ⟨rfl, rfl⟩ := q
    have e : zR (zsR h a b r) a b = r := by simp [zR, zsR, zU]
    rw [e] at hj
    exact hr j hj
  · have e : zR (zsR h i k r) a b = zR h a b := by simp [zR, zsR, zU, q]
    rw [e] at hj
    exact wf a b j hj
theorem zTok_rf {o : Option Nat} {a : Nat} (t : zTok h (va_rf o, a)) (j : Nat) (e : o = some j) : j < zN h ∧ zSub (zK h j) a := t j (by rw [e]; rfl)
theorem v_putR {i idx τ' k c a : Nat} {fin : Bool} {dc : String} {x : Option Nat} (hf : zFd (mO M) idx τ' k c fin dc) (hc : 100 ≤ c) (ha : ∀ t, zSub t a → zSub t (c - 100)) (hfin : fin = false ∨ (mN M = "<init>" ∧ dc = mO M)) (hd : decode (mC M) pc = .ok (.putfield idx, 3)) (kk : V l M n0 s0 τ cvt (pc + 3) ls st (zsR h i k x) g) : V l M n0 s0 τ cvt pc ls ((va_rf x, a) :: (.ref i, τ') :: st) h g := by
  intro o ho
  obtain ⟨h1, h2⟩ := kk o ho
  refine ⟨h1, fun wf tl to p e R s m args below meth c' D cA ρ0 ρ H locs L cells slots cx rl lv r1 r2 => ?_⟩
  obtain ⟨hi, hs⟩ := to.tl.hd i rfl
  obtain ⟨C, T, N, ty, ci, hk, hlk, -, -, hcc⟩ := hf _ hs
  have ez : zTc (zK h i) k = c - 100 := by
    unfold zTc
    have := ci.2.2.2.2.2.1
    rw [if_neg (by omega), if_neg (by omega), if_neg (by omega), if_neg (by omega), hcc]
  have wf' : zWf (zsR h i k x) := zWf_sR wf (fun j hj => ⟨(zTok_rf to.hd j hj).1, fun _ => by rw [ez]; exact ha _ (zTok_rf to.hd j hj).2⟩)
  simp only [List.map_cons, zcv_rf]
  refine zW_put (h' := zsR h i k x) cx rl.2.1 rl.2.2.1 rl.2.2.2.1 hi hs hf hfin (fun ty hty => zTy_r hc hty _) rfl rfl (fun j hj => zE_sR hj) (by simp [zFv, zR, zsR, zU, show ¬ c = 1 by omega, show ¬ c < 3 by omega]) (fun j c hj => by simp [zFv, zI, zJ, zR, zsR, zU, hj]) hd (fun H1 locs1 q1 q2 q3 => ?_)
  exact h2 wf' tl to.tl.tl p e R s m args below meth c' D cA ρ0 ρ H1 locs1 L cells slots cx ⟨rl.1, q1, q2, q3, rl.2.2.2.2⟩ lv r1 r2
end ZP
