/-! fields and arrays -/
def zTy (ty : FieldType) (c : Nat) : Bool := match ty with
  | .int => c == 0
  | .long => c == 1
  | .boolean => c == 2
  | .object _ => decide (100 ≤ c)
  | .array _ => decide (100 ≤ c)
  | _ => false
def zCi (t : Nat) (C : String) (T : u_T) (N : Nat) (ty : Nat → FieldType) : Prop := zCl[t]? = some (C, T, N) ∧ (∀ w ∈ u_ws C T N, w ∈ zT) ∧ (∀ k, k < N → parseFieldDescriptor (T k).2.2.1 = some (ty k)) ∧ (∀ a, a < N → ∀ b, b < N → a ≠ b → (T a).2.1 ≠ (T b).2.1) ∧ (zF t).length = N ∧ t < 13 ∧ ∀ k, k < N → zTy (ty k) ((zF t).getD k 0) = true
/-- a field's link: of every kind that the reference may be of it is place k, of code c, declared by dc -/
def zFd (own : String) (idx τ k c : Nat) (fin : Bool) (dc : String) : Prop := ∀ t, zSub t τ → ∃ (C : String) (T : u_T) (N : Nat) (ty : Nat → FieldType), zCi t C T N ty ∧ k < N ∧ Cond.fieldLink own idx (T k).1 (T k).2.1 (T k).2.2.1 ∈ zT ∧ (T k).2.2.2 = fin ∧ (T k).1 = dc ∧ (zF t).getD k 0 = c
def zFs (ρ : Nat → Nat) (h : Zh) (i t : Nat) : List Value := (List.range (zF t).length).map (fun k => zFv ρ h i k ((zF t).getD k 0))
theorem zE_o {cA : Nat → ClassId} {ρ : Nat → Nat} {h : Zh} {i t : Nat} (ht : zK h i = t) (h13 : t < 13) : zE cA ρ h i = .inr (t, zFs ρ h i t) := by
  unfold zE
  rw [if_neg (by omega), if_neg (by omega), if_pos (by omega), ht]
  rfl
theorem zE_i {cA : Nat → ClassId} {ρ : Nat → Nat} {h : Zh} {i : Nat} (ht : zK h i = 20) : zE cA ρ h i = .inl (cA 20, zL h i, .inl (zI h i)) := by
  unfold zE
  rw [if_pos ht]
theorem zE_j {cA : Nat → ClassId} {ρ : Nat → Nat} {h : Zh} {i : Nat} (ht : zK h i = 21) : zE cA ρ h i = .inl (cA 21, zL h i, .inr (.inl (zJ h i))) := by
  unfold zE
  rw [if_neg (by omega), if_pos ht]
theorem zE_q {cA : Nat → ClassId} {ρ : Nat → Nat} {h : Zh} {i t : Nat} (ht : zK h i = t) (h1 : 22 ≤ t) : zE cA ρ h i = .inl (cA t, zL h i, .inr (.inr (.inr (.inr (fun k => (zR h i k).map ρ))))) := by
  unfold zE
  rw [if_neg (by omega), if_neg (by omega), if_neg (by omega), ht]
theorem zFs_at {ρ : Nat → Nat} {h : Zh} {i t k : Nat} (hk : k < (zF t).length) : (zFs ρ h i t)[k]? = some (zFv ρ h i k ((zF t).getD k 0)) := by
  simp [zFs, List.getElem?_map, List.getElem?_range hk]
theorem zFs_len {ρ : Nat → Nat} {h : Zh} {i t : Nat} : (zFs ρ h i t).length = (zF t).length := by simp [zFs]
theorem zFs_set {ρ : Nat → Nat} {h h' : Zh} {i t k : Nat} {v : Value} (hk : k < (zF t).length) (hv : zFv ρ h' i k ((zF t).getD k 0) = v) (ho : ∀ j, j ≠ k → zFv ρ h' i j ((zF t).getD j 0) = zFv ρ h i j ((zF t).getD j 0)) : zFs ρ h' i t = (zFs ρ h i t).set k v := by
  apply List.ext_getElem?
  intro j
  by_cases hj : j = k
  · subst hj
    rw [zFs_at hk, List.getElem?_set_self (by rw [zFs_len]; exact hk), hv]
  · rw [List.getElem?_set_ne (Ne.symm hj)]
    by_cases hl : j < (zF t).length
    · rw [zFs_at hl, zFs_at hl, ho j hj]
    · rw [List.getElem?_eq_none (by rw [zFs_len]; omega), List.getElem?_eq_none (by rw [zFs_len]; omega)]
theorem zWs_set {cA : Nat → ClassId} {ρ : Nat → Nat} {h h' : Zh} {i : Nat} {E : va_E} (hn : zN h' = zN h) (ho : ∀ j, j ≠ i → zE cA ρ h' j = zE cA ρ h j) (he : zE cA ρ h' i = E) : zWs cA ρ h' = (zWs cA ρ h).set i (ρ i, E) := by
  apply List.ext_getElem?
  intro j
  have hlen : (zWs cA ρ h).length = zN h := by simp [zWs]
  by_cases hl : j < zN h
  · rw [zWs_at (by rw [hn]; exact hl)]
    by_cases hj : j = i
    · subst hj
      rw [List.getElem?_set_self (by rw [hlen]; exact hl), he]
    · rw [List.getElem?_set_ne (Ne.symm hj), zWs_at hl, ho j hj]
  · rw [List.getElem?_eq_none (by simp [zWs, hn]; omega), List.getElem?_eq_none (by simp [hlen]; omega)]
theorem zE_sI {cA : Nat → ClassId} {ρ : Nat → Nat} {h : Zh} {i k j : Nat} {x : Int32} (hj : j ≠ i) : zE cA ρ (zsI h i k x) j = zE cA ρ h j := by
  have e : ∀ b, zI (zsI h i k x) j b = zI h j b := fun b => by simp [zI, zsI, zU, hj]
  have e2 : zI (zsI h i k x) j = zI h j := funext e
  unfold zE zFv
  simp only [e, e2]
  rfl
theorem zE_sJ {cA : Nat → ClassId} {ρ : Nat → Nat} {h : Zh} {i k j : Nat} {x : Int64} (hj : j ≠ i) : zE cA ρ (zsJ h i k x) j = zE cA ρ h j := by
  have e : ∀ b, zJ (zsJ h i k x) j b = zJ h j b := fun b => by simp [zJ, zsJ, zU, hj]
  have e2 : zJ (zsJ h i k x) j = zJ h j := funext e
  unfold zE zFv
  simp only [e, e2]
  rfl
theorem zE_sR {cA : Nat → ClassId} {ρ : Nat → Nat} {h : Zh} {i k j : Nat} {x : Option Nat} (hj : j ≠ i) : zE cA ρ (zsR h i k x) j = zE cA ρ h j := by
  have e : ∀ b, zR (zsR h i k x) j b = zR h j b := fun b => by simp [zR, zsR, zU, hj]
  unfold zE zFv
  simp only [e]
  rfl
section ZG
variable {l : Launch} {α : Type} {M : Zm} {n0 s0 τ : Nat} {cvt : α → Option Value × Zh} {pc : Nat} {ls ls2 : List (Option (Value × Nat))} {st : List (Value × Nat)} {h : Zh} {g : Option α}
theorem v_getI {i idx τ' k c : Nat} {fin : Bool} {dc : String} (hf : zFd (mO M) idx τ' k c fin dc) (hc : c ≠ 1 ∧ c < 3) (hd : decode (mC M) pc = .ok (.getfield idx, 3)) (kk : V l M n0 s0 τ cvt (pc + 3) ls ((.int (zI h i k), 0) :: st) h g) : V l M n0 s0 τ cvt pc ls ((.ref i, τ') :: st) h g := by
  intro o ho
  obtain ⟨h1, h2⟩ := kk o ho
  refine ⟨h1, fun wf tl to p e R s m args below meth c' D cA ρ0 ρ H locs L cells slots cx rl lv r1 r2 => ?_⟩
  obtain ⟨hi, hs⟩ := to.hd i rfl
  obtain ⟨C, T, N, ty, ci, hk, hlk, -, -, hcc⟩ := hf _ hs
  have hx := h2 wf tl (zTo_cons zTok_i to.tl) p e R s m args below meth c' D cA ρ0 ρ H locs L cells slots cx rl lv r1 r2
  refine va_get cx.1 cx.2.1 cx.2.2.2.2.1 ci.2.1 cx.2.2.2.1 cx.2.2.2.2.2.2.2.2.1.1 rl.2.1 i ((zWs_at hi).trans (by rw [zE_o rfl ci.2.2.2.2.2.1])) ci.1 k hk (cx.2.2.2.2.1 _ hlk) (fun x hx => hx) ((zFs_at (by rw [ci.2.2.2.2.1]; exact hk)).trans ?_) hd hx
  rw [hcc]
  simp [zFv, hc.1, hc.2, zcv]
theorem v_getJ {i idx τ' k c : Nat} {fin : Bool} {dc : String} (hf : zFd (mO M) idx τ' k c fin dc) (hc : c = 1) (hd : decode (mC M) pc = .ok (.getfield idx, 3)) (kk : V l M n0 s0 τ cvt (pc + 3) ls ((.long (zJ h i k), 0) :: st) h g) : V l M n0 s0 τ cvt pc ls ((.ref i, τ') :: st) h g := by
  intro o ho
  obtain ⟨h1, h2⟩ := kk o ho
  refine ⟨h1, fun wf tl to p e R s m args below meth c' D cA ρ0 ρ H locs L cells slots cx rl lv r1 r2 => ?_⟩
  obtain ⟨hi, hs⟩ := to.hd i rfl
  obtain ⟨C, T, N, ty, ci, hk, hlk, -, -, hcc⟩ := hf _ hs
  have hx := h2 wf tl (zTo_cons zTok_j to.tl) p e R s m args below meth c' D cA ρ0 ρ H locs L cells slots cx rl lv r1 r2
  refine va_get cx.1 cx.2.1 cx.2.2.2.2.1 ci.2.1 cx.2.2.2.1 cx.2.2.2.2.2.2.2.2.1.1 rl.2.1 i ((zWs_at hi).trans (by rw [zE_o rfl ci.2.2.2.2.2.1])) ci.1 k hk (cx.2.2.2.2.1 _ hlk) (fun x hx => hx) ((zFs_at (by rw [ci.2.2.2.2.1]; exact hk)).trans ?_) hd hx
  rw [hcc]
  simp [zFv, hc, zcv]
theorem v_getR {i idx τ' k c : Nat} {fin : Bool} {dc : String} (hf : zFd (mO M) idx τ' k c fin dc) (hc : 100 ≤ c) (hd : decode (mC M) pc = .ok (.getfield idx, 3)) (kk : V l M n0 s0 τ cvt (pc + 3) ls ((va_rf (zR h i k), c - 100) :: st) h g) : V l M n0 s0 τ cvt pc ls ((.ref i, τ') :: st) h g := by
  intro o ho
  obtain ⟨h1, h2⟩ := kk o ho
  refine ⟨h1, fun wf tl to p e R s m args below meth c' D cA ρ0 ρ H locs L cells slots cx rl lv r1 r2 => ?_⟩
  obtain ⟨hi, hs⟩ := to.hd i rfl
  obtain ⟨C, T, N, ty, ci, hk, hlk, -, -, hcc⟩ := hf _ hs
  have ht : zTok h (va_rf (zR h i k), c - 100) := by
    intro j hj
    cases hr : zR h i k with
    | none => rw [hr] at hj; cases hj
    | some b =>
      rw [hr] at hj
      cases hj
      obtain ⟨w1, w2⟩ := wf i k j hr
      refine ⟨w1, ?_⟩
      have w3 := w2 hi
      have e : zTc (zK h i) k = c - 100 := by
        unfold zTc
        have := ci.2.2.2.2.2.1
        rw [if_neg (by omega), if_neg (by omega), if_neg (by omega), if_neg (by omega), hcc]
      rw [e] at w3
      exact w3
  have hx := h2 wf tl (zTo_cons ht to.tl) p e R s m args below meth c' D cA ρ0 ρ H locs L cells slots cx rl lv r1 r2
  simp only [List.map_cons, zcv_rf] at hx ⊢
  refine va_get cx.1 cx.2.1 cx.2.2.2.2.1 ci.2.1 cx.2.2.2.1 cx.2.2.2.2.2.2.2.2.1.1 rl.2.1 i ((zWs_at hi).trans (by rw [zE_o rfl ci.2.2.2.2.2.1])) ci.1 k hk (cx.2.2.2.2.1 _ hlk) (fun x hx => hx) ((zFs_at (by rw [ci.2.2.2.2.1]; exact hk)).trans ?_) hd hx
  rw [hcc]
  simp [zFv, show ¬ c = 1 by omega, show ¬ c < 3 by omega]
end ZG
