/-! a method's contract; its beginning and its ends; calls -/
def Zc (l : Launch) (y : MethodName) (M : Zm) (τ : Nat) (h : Zh) (as : List (Value × Nat)) (g : Option (Option Value × Zh)) : Prop := ∀ o, g = some o → zLe h o.2 ∧ (zWf h → zTo h as → ∀ (D : va_G) (cA : Nat → ClassId) (ρ : Nat → Nat) (sz : Nat),
  Met l y (.code y (mC M) (mL M) (mR M) :: zT) ({ frames := mF M, cells := zN o.2 - zN h, slots := zS o.2 - zS h, locals := mW M } : Room) (va_Pc (as.map (fun q => zcv ρ q.1)) (fun U => U.heap.size = sz ∧ zFx D cA U ∧ va_P D zCl (zWs cA ρ h) U.heap ∧ va_D (zAf ρ (zN h) sz) (zWs cA ρ h))) (zQc D cA ρ (zN h) sz τ o) (zN o.2 - zN h) (zS o.2 - zS h) (zAf ρ (zN h) sz))
/-- the locals at the entry -/
def zEn : List (Value × Nat) → List (Option (Value × Nat))
  | [] => []
  | (.long x, a) :: t => some (.long x, a) :: none :: zEn t
  | (.double x, a) :: t => some (.double x, a) :: none :: zEn t
  | q :: t => some q :: zEn t
theorem zEn_1 {q : Value × Nat} {t : List (Value × Nat)} (hc : q.1.category = 1) : zEn (q :: t) = some q :: zEn t := by
  obtain ⟨v, a⟩ := q
  cases v <;> first | rfl | (simp [Value.category] at hc)
theorem zEn_2 {q : Value × Nat} {t : List (Value × Nat)} (hc : q.1.category = 2) : zEn (q :: t) = some q :: none :: zEn t := by
  obtain ⟨v, a⟩ := q
  cases v <;> first | rfl | (simp [Value.category] at hc)
theorem zEn_at (ρ : Nat → Nat) : ∀ (as : List (Value × Nat)) (b i : Nat) (q : Value × Nat), (zEn as)[i]? = some (some q) → (b + i, zcv ρ q.1) ∈ lv_args b (as.map (fun q => zcv ρ q.1)) ∧ q ∈ as
  | [], b, i, q, h => by simp [zEn] at h
  | a :: t, b, i, q, h => by
    rcases lv_cat a.1 with hc | hc
    · rw [zEn_1 hc] at h
      have hc' : ¬ (zcv ρ a.1).category = 2 := by rw [zcat]; omega
      cases i with
      | zero =>
        simp at h
        subst h
        exact ⟨List.mem_cons_self, List.mem_cons_self⟩
      | succ i =>
        rw [List.getElem?_cons_succ] at h
        obtain ⟨h1, h2⟩ := zEn_at ρ t (b + 1) i q h
        refine ⟨?_, List.mem_cons_of_mem _ h2⟩
        show _ ∈ lv_args b (zcv ρ a.1 :: _)
        unfold lv_args
        rw [if_neg hc', show b + (i + 1) = b + 1 + i by omega]
        exact List.mem_cons_of_mem _ h1
    · rw [zEn_2 hc] at h
      have hc' : (zcv ρ a.1).category = 2 := by rw [zcat]; exact hc
      rcases i with _ | _ | i
      · simp at h
        subst h
        exact ⟨List.mem_cons_self, List.mem_cons_self⟩
      · simp at h
      · rw [List.getElem?_cons_succ, List.getElem?_cons_succ] at h
        obtain ⟨h1, h2⟩ := zEn_at ρ t (b + 2) i q h
        refine ⟨?_, List.mem_cons_of_mem _ h2⟩
        show _ ∈ lv_args b (zcv ρ a.1 :: _)
        unfold lv_args
        rw [if_pos hc', show b + (i + 1 + 1) = b + 2 + i by omega]
        exact List.mem_cons_of_mem _ h1
theorem zsl_len (ρ : Nat → Nat) : ∀ (as : List (Value × Nat)), (lg_sl (as.map (fun q => zcv ρ q.1))).length = (zEn as).length
  | [] => rfl
  | a :: t => by
    have ih := zsl_len ρ t
    rcases lv_cat a.1 with hc | hc
    · rw [zEn_1 hc]
      have hc' : ¬ (zcv ρ a.1).category = 2 := by rw [zcat]; omega
      simp only [lg_sl, List.map_cons, List.flatMap_cons, if_neg hc', List.length_append, List.length_cons, List.length_nil] at ih ⊢
      omega
    · rw [zEn_2 hc]
      have hc' : (zcv ρ a.1).category = 2 := by rw [zcat]; exact hc
      simp only [lg_sl, List.map_cons, List.flatMap_cons, if_pos hc', List.length_append, List.length_cons, List.length_nil] at ih ⊢
      omega
section ZC
variable {l : Launch} {α : Type} {M : Zm} {n0 s0 τ : Nat} {cvt : α → Option Value × Zh} {pc : Nat} {ls ls2 : List (Option (Value × Nat))} {st : List (Value × Nat)} {h : Zh} {g : Option α}
theorem zc_of {y : MethodName} {as : List (Value × Nat)} {j : Nat} (hy : plainName y.cls = true) (hn : y.name = mN M) (ho : y.cls = mO M) (hl : (zEn as).length ≤ mL M) (hs : zEn as ++ List.replicate j none = ls) (k : V l M (zN h) (zS h) τ cvt 0 ls [] h g) : Zc l y M τ h as (g.map cvt) := by
  intro o ho'
  obtain ⟨a, ha, rfl⟩ := Option.map_eq_some_iff.mp ho'
  obtain ⟨h1, h2⟩ := k a ha
  refine ⟨h1, fun wf to D cA ρ sz => ?_⟩
  refine Met.ofW (cc := mC M) (maxL := mL M) (ret := mR M) hy rfl ?_
  intro p e s m args below meth c s₁ B hml hv
  obtain ⟨rfl, hsz, fx, hP, hD⟩ := hv
  have hts := atoms_spec (ws := Cond.code y (mC M) (mL M) (mR M) :: zT) B.pre
  have hown : s.vm.findClass y.cls = some m.cls := findClass_of_methodNamed B.named
  have hnm : meth.name = y.name := (name_of_methodNamed B.named B.method).1
  have hlv := lv_entry (as.map (fun q => zcv ρ q.1)) (n := mL M) (by rw [zsl_len]; exact hl)
  rw [lg_entry_eq]
  generalize (lg_sl (as.map (fun q => zcv ρ q.1)) ++ List.replicate (mL M - (lg_sl (as.map (fun q => zcv ρ q.1))).length) Slot.unset).toArray = L at hlv ⊢
  have hat : ∀ (i : Nat) (q : Value × Nat), ls[i]? = some (some q) → (zEn as)[i]? = some (some q) := by
    intro i q hq
    rw [← hs] at hq
    by_cases hi : i < (zEn as).length
    · rwa [List.getElem?_append_left hi] at hq
    · rw [List.getElem?_append_right (by omega)] at hq
      have := List.mem_of_getElem? hq
      rw [List.mem_replicate] at this
      cases this.2
  subst hsz
  refine h2 wf (fun q hq => ?_) (fun q hq => by cases hq) p e _ s m _ below meth c D cA ρ ρ s.heap [] L 0 0 ⟨B.exec, B.bytes, hml, ho ▸ hown, fun w hw => hts w (List.mem_cons_of_mem _ hw), B.notSynchronized, B.returns, hnm.trans hn, fx, rfl, rfl⟩ ⟨fun _ _ => rfl, hP, hD, va_S.rf, Nat.zero_add _, Nat.zero_add _⟩ ⟨hlv.1, hlv.2.1, fun i q hq => ?_⟩ ?_ ?_
  · obtain ⟨i, hi⟩ := List.getElem?_of_mem hq
    exact to q (zEn_at ρ as 0 i q (hat i q hi)).2
  · have := (zEn_at ρ as 0 i q (hat i q hq)).1
    rw [Nat.zero_add] at this
    exact hlv.2.2 _ this
  · show zN (cvt a).2 - zN h + zN h = _
    have := h1.1
    omega
  · show zS (cvt a).2 - zS h + zS h = _
    have := h1.2.1
    omega
/-- the ends -/
theorem zEnd {p : Program} {R : Room} {s : State} {m : MethodId} {args : Array Value} {meth : Method} {c : Code} {D : va_G} {cA : Nat → ClassId} {ρ0 ρ : Nat → Nat} {H : Heap} {locs : List Loc} {cells slots : Nat} {o : Option Value} (wf : zWf h) (to : ∀ v, o = some v → zTok h (v, τ)) (rl : zRl D cA ρ0 n0 s0 s.heap ρ h H locs cells slots) : ∀ t : State, t.heap = H → s.WarmedH t.vm → zQc D cA ρ0 n0 s.heap.size τ (o, h) args s (.returned (o.map (zcv ρ))) t :=
  fun t ht _ => ⟨⟨ρ, rl.1, rfl, by rw [ht]; exact rl.2.1, rl.2.2.1⟩, rl.2.2.2.1.F ht, wf, to⟩
theorem v_iret {x : Int32} {a : Nat} {v : α} (hc : cvt v = (some (.int x), h)) (hr : mR M = some .int) (hd : decode (mC M) pc = .ok (.ireturn, 1)) : V l M n0 s0 τ cvt pc ls [(.int x, a)] h (some v) := by
  intro o ho
  cases ho
  rw [hc]
  refine ⟨zLe.rfl' _, fun wf tl to p e R s m args below meth c D cA ρ0 ρ H locs L cells slots cx rl lv r1 r2 => ?_⟩
  have hq := zEnd (τ := τ) (p := p) (R := R) (m := m) (args := args) (meth := meth) (c := c) (o := some (.int x)) wf (fun v hv => by cases hv; exact zTok_i) rl
  have e1 : zN (some (Value.int x), h).2 - n0 = cells := by have := rl.2.2.2.2.1; show zN h - n0 = cells; omega
  have e2 : zS (some (Value.int x), h).2 - s0 = slots := by have := rl.2.2.2.2.2; show zS h - s0 = slots; omega
  rw [e1, e2]
  exact W.iret (hlocks := cx.2.2.2.2.2.1) cx.1 cx.2.1 (cx.2.2.2.2.2.2.1.trans hr) hq (fun q hq => rl.2.2.2.1.2.2 q hq) hd
theorem v_zret {x : Int32} {a : Nat} {v : α} (hc : cvt v = (some (.int x), h)) (hx : x = 0 ∨ x = 1) (hr : mR M = some .boolean) (hd : decode (mC M) pc = .ok (.ireturn, 1)) : V l M n0 s0 τ cvt pc ls [(.int x, a)] h (some v) := by
  intro o ho
  cases ho
  rw [hc]
  refine ⟨zLe.rfl' _, fun wf tl to p e R s m args below meth c D cA ρ0 ρ H locs L cells slots cx rl lv r1 r2 => ?_⟩
  have hq := zEnd (τ := τ) (p := p) (R := R) (m := m) (args := args) (meth := meth) (c := c) (o := some (.int x)) wf (fun v hv => by cases hv; exact zTok_i) rl
  have e1 : zN (some (Value.int x), h).2 - n0 = cells := by have := rl.2.2.2.2.1; show zN h - n0 = cells; omega
  have e2 : zS (some (Value.int x), h).2 - s0 = slots := by have := rl.2.2.2.2.2; show zS h - s0 = slots; omega
  rw [e1, e2]
  exact W.zret (hlocks := cx.2.2.2.2.2.1) cx.1 cx.2.1 (cx.2.2.2.2.2.2.1.trans hr) (by rcases hx with rfl | rfl <;> decide) hq (fun q hq => rl.2.2.2.1.2.2 q hq) hd
theorem v_lret {x : Int64} {a : Nat} {v : α} (hc : cvt v = (some (.long x), h)) (hr : mR M = some .long) (hd : decode (mC M) pc = .ok (.lreturn, 1)) : V l M n0 s0 τ cvt pc ls [(.long x, a)] h (some v) := by
  intro o ho
  cases ho
  rw [hc]
  refine ⟨zLe.rfl' _, fun wf tl to p e R s m args below meth c D cA ρ0 ρ H locs L cells slots cx rl lv r1 r2 => ?_⟩
  have hq := zEnd (τ := τ) (p := p) (R := R) (m := m) (args := args) (meth := meth) (c := c) (o := some (.long x)) wf (fun v hv => by cases hv; exact zTok_j) rl
  have e1 : zN (some (Value.long x), h).2 - n0 = cells := by have := rl.2.2.2.2.1; show zN h - n0 = cells; omega
  have e2 : zS (some (Value.long x), h).2 - s0 = slots := by have := rl.2.2.2.2.2; show zS h - s0 = slots; omega
  rw [e1, e2]
  exact W.lret (hlocks := cx.2.2.2.2.2.1) cx.1 cx.2.1 (cx.2.2.2.2.2.2.1.trans hr) hq (fun q hq => rl.2.2.2.1.2.2 q hq) hd
theorem v_vret {v : α} (hc : cvt v = (none, h)) (hr : mR M = none) (hd : decode (mC M) pc = .ok (.return_, 1)) : V l M n0 s0 τ cvt pc ls [] h (some v) := by
  intro o ho
  cases ho
  rw [hc]
  refine ⟨zLe.rfl' _, fun wf tl to p e R s m args below meth c D cA ρ0 ρ H locs L cells slots cx rl lv r1 r2 => ?_⟩
  have hq := zEnd (τ := τ) (p := p) (R := R) (m := m) (args := args) (meth := meth) (c := c) (o := none) wf (fun v hv => by cases hv) rl
  have e1 : zN ((none : Option Value), h).2 - n0 = cells := by have := rl.2.2.2.2.1; show zN h - n0 = cells; omega
  have e2 : zS ((none : Option Value), h).2 - s0 = slots := by have := rl.2.2.2.2.2; show zS h - s0 = slots; omega
  rw [e1, e2]
  exact W.vret (hlocks := cx.2.2.2.2.2.1) cx.1 cx.2.1 (cx.2.2.2.2.2.2.1.trans hr) hq (fun q hq => rl.2.2.2.1.2.2 q hq) hd
theorem v_aret {r : Option Nat} {v : α} {rt : FieldType} (hc : cvt v = (some (va_rf r), h)) (hr : mR M = some rt) (hrt : (∃ n, rt = .object n) ∨ ∃ t, rt = .array t) (hd : decode (mC M) pc = .ok (.areturn, 1)) : V l M n0 s0 τ cvt pc ls [(va_rf r, τ)] h (some v) := by
  intro o ho
  cases ho
  rw [hc]
  refine ⟨zLe.rfl' _, fun wf tl to p e R s m args below meth c D cA ρ0 ρ H locs L cells slots cx rl lv r1 r2 => ?_⟩
  have hq := zEnd (τ := τ) (p := p) (R := R) (m := m) (args := args) (meth := meth) (c := c) (o := some (va_rf r)) wf (fun v hv => by cases hv; exact to.hd) rl
  have e1 : zN (some (va_rf r), h).2 - n0 = cells := by have := rl.2.2.2.2.1; show zN h - n0 = cells; omega
  have e2 : zS (some (va_rf r), h).2 - s0 = slots := by have := rl.2.2.2.2.2; show zS h - s0 = slots; omega
  rw [e1, e2]
  simp only [Option.map_some, zcv_rf, List.map_cons, List.map_nil] at hq ⊢
  exact W.aret (hlocks := cx.2.2.2.2.2.1) cx.1 cx.2.1 (cx.2.2.2.2.2.2.1.trans hr) hrt (va_rf_or _) hq (fun q hq => rl.2.2.2.1.2.2 q hq) hd
end ZC
