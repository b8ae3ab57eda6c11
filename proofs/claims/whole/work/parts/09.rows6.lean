/-! names, joins, loops; new cells; references into arrays -/
def zjn {B C : Type} (r : B) (f : B → C) : C := f r
def zlp {B : Type} (z : B) (F : B → B) : Nat → B
  | 0 => z
  | n + 1 => F (zlp z F n)
section ZL
variable {l : Launch} {α : Type} {M : Zm} {n0 s0 τ : Nat} {cvt : α → Option Value × Zh} {pc : Nat} {ls ls2 : List (Option (Value × Nat))} {st : List (Value × Nat)} {h : Zh} {g : Option α}
theorem v_leti {x : Int32} {a : Nat} {f : Int32 → Option α} (k : ∀ y : Int32, V l M n0 s0 τ cvt pc ls ((.int y, a) :: st) h (f y)) : V l M n0 s0 τ cvt pc ls ((.int x, a) :: st) h (zlt x f) := k x
theorem v_letj {x : Int64} {a : Nat} {f : Int64 → Option α} (k : ∀ y : Int64, V l M n0 s0 τ cvt pc ls ((.long y, a) :: st) h (f y)) : V l M n0 s0 τ cvt pc ls ((.long x, a) :: st) h (zlt x f) := k x
theorem v_letr {x : Option Nat} {a : Nat} {f : Option Nat → Option α} (k : ∀ y : Option Nat, V l M n0 s0 τ cvt pc ls ((va_rf y, a) :: st) h (f y)) : V l M n0 s0 τ cvt pc ls ((va_rf x, a) :: st) h (zlt x f) := k x
theorem v_leth {h0 : Zh} {f : Zh → Option α} (k : ∀ h1 : Zh, V l M n0 s0 τ cvt pc ls st h1 (f h1)) : V l M n0 s0 τ cvt pc ls st h0 (zlt h0 f) := k h0
theorem v_nn {x : Option Nat} {f : Nat → Option α} (k : ∀ y : Nat, x = some y → V l M n0 s0 τ cvt pc ls st h (f y)) : V l M n0 s0 τ cvt pc ls st h (Option.bind x f) := by
  cases x with
  | none => exact v_none
  | some y => exact k y rfl
theorem v_jn {B : Type} {r : B} {f : B → Option α} (P : B → Prop) (hr : P r) (hf : ∀ k, P k → V l M n0 s0 τ cvt pc ls st h (f k)) : V l M n0 s0 τ cvt pc ls st h (zjn r f) := hf r hr
theorem zlp_ind {B : Type} {z : B} {F : B → B} {n : Nat} (P : B → Prop) (h0 : P z) (hs : ∀ r, P r → P (F r)) : P (zlp z F n) := by
  induction n with
  | zero => exact h0
  | succ n ih => exact hs _ ih
theorem v_ifnull {r : Option Nat} {a t : Nat} {off : Int} {g1 g2 : Option α} (hd : decode (mC M) pc = .ok (.ifnull off, 3)) (ht : (pc : Int) + off = (t : Int)) (kt : V l M n0 s0 τ cvt t ls st h g1) (kf : V l M n0 s0 τ cvt (pc + 3) ls st h g2) : V l M n0 s0 τ cvt pc ls ((va_rf r, a) :: st) h (if r.isNone = true then g1 else g2) := v_br kt kf (fun t => t.tl) (fun p e R s m args below meth c ρ H locs L cells slots Q hx hb kt kf => by
  cases r with
  | none => exact lv_ifnullN hx hb hd ht (kt rfl)
  | some x => exact lv_ifnull hx hb hd (kf (by simp)))
theorem v_ifnonnull {r : Option Nat} {a t : Nat} {off : Int} {g1 g2 : Option α} (hd : decode (mC M) pc = .ok (.ifnonnull off, 3)) (ht : (pc : Int) + off = (t : Int)) (kt : V l M n0 s0 τ cvt t ls st h g1) (kf : V l M n0 s0 τ cvt (pc + 3) ls st h g2) : V l M n0 s0 τ cvt pc ls ((va_rf r, a) :: st) h (if r.isNone = true then g2 else g1) := v_br kf kt (fun t => t.tl) (fun p e R s m args below meth c ρ H locs L cells slots Q hx hb kf kt => by
  cases r with
  | none => exact lv_ifnonnullN hx hb hd (kf rfl)
  | some x => exact lv_ifnonnull hx hb hd ht (kt (by simp)))
/-- more of the addresses -/
theorem zcv_ext {ρ ρ' : Nat → Nat} {q : Value × Nat} (he : ∀ i, i < zN h → ρ' i = ρ i) (t : zTok h q) : zcv ρ' q.1 = zcv ρ q.1 := by
  obtain ⟨v, a⟩ := q
  cases v <;> try rfl
  rename_i i
  show Value.ref (ρ' i) = Value.ref (ρ i)
  rw [he i (t i rfl).1]
theorem zLv.ext {ρ ρ' : Nat → Nat} {L : Array Slot} {nL : Nat} (he : ∀ i, i < zN h → ρ' i = ρ i) (tl : zTl h ls) (lv : zLv L nL ρ ls) : zLv L nL ρ' ls :=
  ⟨lv.1, lv.2.1, fun i q hq => by rw [zcv_ext he (tl q (List.mem_of_getElem? hq))]; exact lv.2.2 i q hq⟩
theorem zst_ext {ρ ρ' : Nat → Nat} (he : ∀ i, i < zN h → ρ' i = ρ i) (to : zTo h st) : st.map (fun q => zcv ρ' q.1) = st.map (fun q => zcv ρ q.1) := List.map_congr_left (fun q hq => zcv_ext he (to q hq))
theorem zE_ext {cA : Nat → ClassId} {ρ ρ' : Nat → Nat} (he : ∀ i, i < zN h → ρ' i = ρ i) (wf : zWf h) (i : Nat) : zE cA ρ' h i = zE cA ρ h i := by
  have e : ∀ k, (zR h i k).map ρ' = (zR h i k).map ρ := fun k => by
    cases hr : zR h i k with
    | none => rfl
    | some j => simp [he j (wf i k j hr).1]
  unfold zE zFv
  simp only [e]
theorem zE_A {cA : Nat → ClassId} {ρ : Nat → Nat} {t n i : Nat} (hi : i ≠ zN h) : zE cA ρ (zA h t n) i = zE cA ρ h i := by
  have hi' : ¬ i = h.1 := hi
  have e1 : zK (zA h t n) i = zK h i := by simp [zK, zA, hi']
  have e2 : zL (zA h t n) i = zL h i := by simp [zL, zA, hi']
  have e3 : ∀ k, zI (zA h t n) i k = zI h i k := fun k => by simp [zI, zA, hi']
  have e4 : ∀ k, zJ (zA h t n) i k = zJ h i k := fun k => by simp [zJ, zA, hi']
  have e5 : ∀ k, zR (zA h t n) i k = zR h i k := fun k => by simp [zR, zA, hi']
  have e6 : zI (zA h t n) i = zI h i := funext e3
  have e7 : zJ (zA h t n) i = zJ h i := funext e4
  unfold zE zFv
  simp only [e1, e2, e3, e4, e5, e6, e7]
def zup (ρ : Nat → Nat) (n q : Nat) : Nat → Nat := fun i => if i = n then q else ρ i
theorem zup_lt {ρ : Nat → Nat} {q : Nat} : ∀ i, i < zN h → zup ρ (zN h) q i = ρ i := fun i hi => by unfold zup; rw [if_neg (by omega)]
theorem zWs_A {cA : Nat → ClassId} {ρ : Nat → Nat} {t n q : Nat} {E : va_E} (wf : zWf h) (hE : zE cA (zup ρ (zN h) q) (zA h t n) (zN h) = E) : zWs cA (zup ρ (zN h) q) (zA h t n) = zWs cA ρ h ++ [(q, E)] := by
  show (List.range (zN h + 1)).map _ = (List.range (zN h)).map _ ++ _
  rw [List.range_succ, List.map_append]
  congr 1
  · refine List.map_congr_left (fun i hi => ?_)
    have hi := List.mem_range.mp hi
    rw [zup_lt i hi, zE_A (by omega), zE_ext zup_lt wf]
  · simp [hE, zup]
theorem zLe_A {t n : Nat} : zLe h (zA h t n) := ⟨Nat.le_succ _, Nat.le_add_right _ _, fun i hi => by
  have hi' : ¬ i = h.1 := Nat.ne_of_lt hi
  exact ⟨by simp [zK, zA, hi'], by simp [zL, zA, hi']⟩⟩
theorem zWf_A {t n : Nat} (wf : zWf h) : zWf (zA h t n) := by
  intro i k j hj
  by_cases hi : i = h.1
  · simp [zR, zA, hi] at hj
  · have e : zR (zA h t n) i k = zR h i k := by simp [zR, zA, hi]
    rw [e] at hj
    obtain ⟨w1, w2⟩ := wf i k j hj
    refine ⟨Nat.lt_succ_of_lt w1, fun hlt => ?_⟩
    have hlt' : i < zN h := by
      have : i < h.1 + 1 := hlt
      have : ¬ i = h.1 := hi
      show i < h.1
      omega
    rw [(zLe_A (h := h) (t := t) (n := n)).2.2 i hlt' |>.1, (zLe_A (h := h) (t := t) (n := n)).2.2 j w1 |>.1]
    exact w2 hlt'
theorem zK_A {t n : Nat} : zK (zA h t n) (zN h) = t := by
  show (if h.1 = h.1 then (t, n) else _).1 = t
  rw [if_pos rfl]
theorem zL_A {t n : Nat} : zL (zA h t n) (zN h) = n := by
  show (if h.1 = h.1 then (t, n) else _).2 = n
  rw [if_pos rfl]
theorem zI_A {t n k : Nat} : zI (zA h t n) (zN h) k = 0 := by
  show (if h.1 = h.1 then (0 : Int32) else _) = 0
  rw [if_pos rfl]
theorem zJ_A {t n k : Nat} : zJ (zA h t n) (zN h) k = 0 := by
  show (if h.1 = h.1 then (0 : Int64) else _) = 0
  rw [if_pos rfl]
theorem zR_A {t n k : Nat} : zR (zA h t n) (zN h) k = none := by
  show (if h.1 = h.1 then (none : Option Nat) else _) = none
  rw [if_pos rfl]
/-- how a new cell comes into V -/
theorem v_alloc {t n len a : Nat} {st' : List (Value × Nat)} (kk : V l M n0 s0 τ cvt (pc + len) ls ((.ref (zN h), t) :: st') (zA h t n) g) (ht : zTo h st → zTo h st')
    (hw : ∀ (p : Program) (e : Env) (R : Room) (s : State) (m : MethodId) (args : Array Value) (below : List Frame) (meth : Method) (c : Code) (D : va_G) (cA : Nat → ClassId) (ρ0 ρ : Nat → Nat) (H : Heap) (locs : List Loc) (L : Array Slot) (cells slots : Nat) (Q : State → Prop), zCx M p R s m args meth c D cA → va_P D zCl (zWs cA ρ h) H → va_D (zAf ρ0 n0 s.heap.size) (zWs cA ρ h) → va_S (zAf ρ0 n0 s.heap.size) s.heap H locs → cells + 1 ≤ R.cells → slots + n ≤ R.slots →
      (∀ (q : Nat) (H1 : Heap), va_P D zCl (zWs cA ρ h ++ [(q, zE cA (zup ρ (zN h) q) (zA h t n) (zN h))]) H1 → va_D (zAf ρ0 n0 s.heap.size) (zWs cA ρ h ++ [(q, zE cA (zup ρ (zN h) q) (zA h t n) (zN h))]) → va_S (zAf ρ0 n0 s.heap.size) s.heap H1 locs → W p l e R s m args below meth c H1 locs (cells + 1) (slots + n) Q (F0 m (pc + len) L (.ref q :: st'.map (fun q => zcv ρ q.1)))) →
      W p l e R s m args below meth c H locs cells slots Q (F0 m pc L (st.map (fun q => zcv ρ q.1)))) : V l M n0 s0 τ cvt pc ls st h g := by
  intro o ho
  obtain ⟨h1, h2⟩ := kk o ho
  refine ⟨zLe_A.tr h1, fun wf tl to p e R s m args below meth c D cA ρ0 ρ H locs L cells slots cx rl lv r1 r2 => ?_⟩
  have n1 : zN h + 1 ≤ zN (cvt o).2 := h1.1
  have n2 : zS h + n ≤ zS (cvt o).2 := h1.2.1
  have c1 := rl.2.2.2.2.1
  have c2 := rl.2.2.2.2.2
  refine hw p e R s m args below meth c D cA ρ0 ρ H locs L cells slots _ cx rl.2.1 rl.2.2.1 rl.2.2.2.1 (by omega) (by omega) (fun q H1 q1 q2 q3 => ?_)
  rw [← zWs_A wf rfl] at q1 q2
  have tok : zTok (zA h t n) (.ref (zN h), t) := fun i hi => by
    cases hi
    exact ⟨Nat.lt_succ_self _, by rw [zK_A]; exact Or.inl rfl⟩
  have res := h2 (zWf_A wf) (tl.le zLe_A) (zTo_cons tok ((ht to).le zLe_A)) p e R s m args below meth c D cA ρ0 (zup ρ (zN h) q) H1 locs L (cells + 1) (slots + n) cx
    ⟨fun i hi => by rw [zup_lt i (by omega)]; exact rl.1 i hi, q1, q2, q3, by show cells + 1 + n0 = zN h + 1; omega, by show slots + n + s0 = zS h + n; omega⟩ (lv.ext zup_lt tl) r1 r2
  have e : ((Value.ref (zN h), t) :: st').map (fun x => zcv (zup ρ (zN h) q) x.1) = .ref q :: st'.map (fun x => zcv ρ x.1) := by
    rw [List.map_cons, zst_ext zup_lt (ht to)]
    show Value.ref (zup ρ (zN h) q (zN h)) :: _ = _
    simp [zup]
  rw [e] at res
  exact res
theorem v_new {t idx : Nat} {C : String} {T : u_T} {N : Nat} {ty : Nat → FieldType} (ci : zCi t C T N ty) (hcl : Cond.classLink (mO M) idx C ∈ zT) (hins : Cond.instantiable C N ∈ zT) (hini : Cond.initialized C ∈ zT) (hd : decode (mC M) pc = .ok (.new idx, 3)) (kk : V l M n0 s0 τ cvt (pc + 3) ls ((.ref (zN h), t) :: st) (zA h t N) g) : V l M n0 s0 τ cvt pc ls st h g := by
  refine v_alloc (a := 0) kk (fun t => t) (fun p e R s m args below meth c D cA ρ0 ρ H locs L cells slots Q cx hP hD hS hc hs k => ?_)
  refine va_new (fs := zFs (zup ρ (zN h) 0) (zA h t N) (zN h) t) cx.1 cx.2.1 cx.2.2.2.2.1 ci.2.1 ty ci.2.2.1 cx.2.2.2.1 (cx.2.2.2.2.1 _ hcl) (cx.2.2.2.2.1 _ hins) (cx.2.2.2.2.1 _ hini) cx.2.2.2.2.2.2.2.2.1.1 hP hD hS (fun q hq => Or.inr hq) ci.1 (fun j hj => ?_) hc hs hd (fun q H1 q1 q2 q3 => ?_)
  · have hl : j < (zF t).length := by rw [ci.2.2.2.2.1]; exact hj
    show _ = vp_V _ j
    unfold vp_V
    rw [List.getD_eq_getElem?_getD, zFs_at hl]
    have hty := ci.2.2.2.2.2.2 j hj
    show _ = zFv _ _ _ _ _
    unfold zFv
    rw [zI_A, zJ_A, zR_A]
    revert hty
    generalize (zF t).getD j 0 = cc
    intro hty
    cases hq : ty j <;> rw [hq] at hty <;> simp [zTy] at hty <;> first | (subst hty; rfl) | (rw [if_neg (by omega), if_neg (by omega)]; rfl)
  · have e : zE cA (zup ρ (zN h) q) (zA h t N) (zN h) = .inr (t, zFs (zup ρ (zN h) 0) (zA h t N) (zN h) t) := by
      rw [zE_o zK_A ci.2.2.2.2.2.1]
      unfold zFs zFv
      simp only [zR_A]
      rfl
    refine k q H1 ?_ ?_ q3 <;> rw [e] <;> assumption
end ZL
