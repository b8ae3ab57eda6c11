/-! a method's beginning, once more: by the method's name alone, its locals given -/
theorem zEn_ci {x : Int32} {a : Nat} {t : List (Value × Nat)} {e : List (Option (Value × Nat))} (h : zEn t = e) : zEn ((.int x, a) :: t) = some (.int x, a) :: e := by rw [← h]; rfl
theorem zEn_cj {x : Int64} {a : Nat} {t : List (Value × Nat)} {e : List (Option (Value × Nat))} (h : zEn t = e) : zEn ((.long x, a) :: t) = some (.long x, a) :: none :: e := by rw [← h]; rfl
theorem zEn_ca {x : Nat} {a : Nat} {t : List (Value × Nat)} {e : List (Option (Value × Nat))} (h : zEn t = e) : zEn ((.ref x, a) :: t) = some (.ref x, a) :: e := by rw [← h]; rfl
theorem zEn_cr {x : Option Nat} {a : Nat} {t : List (Value × Nat)} {e : List (Option (Value × Nat))} (h : zEn t = e) : zEn ((va_rf x, a) :: t) = some (va_rf x, a) :: e := by rw [← h]; cases x <;> rfl
theorem zcl_rf {x : Option Nat} {a : Nat} : zcl (some (va_rf x, a)) = some (va_rf x, a) := by cases x <;> rfl
theorem zMet {l : Launch} {y : MethodName} {ws ws' : List Cond} {rm : Room} {Pc : Array Value → State → Prop} {Qc : Array Value → State → Outcome → State → Prop} {mc ms : Nat} {free : Addr → Prop} {cc : ByteArray} {maxL : Nat} {ret : Option FieldType}
    (hy : plainFor y = true) (hw : ws = Cond.code y cc maxL ret :: ws')
    (body : ∀ p e s m args below meth c s₁, BodyLoose p l y (headSpec ws rm) cc maxL ret e s m args below meth c s₁ → c.maxLocals = maxL → Pc args s →
      W p l e (headSpec ws rm).room s m args below meth c s.heap [] 0 0 (MQ below Qc args s mc ms free) (entryFrame m args maxL)) : Met l y ws rm Pc Qc mc ms free := by
  refine MetFree.of_bodySF (code := cc) (maxLocals := maxL) (ret := ret) hy ?_ ?_
  · intro args s m h hn
    obtain ⟨meth, c, h1, h2, h3, h4, h5, h6, -, -⟩ := Cond.code_spec hn (atoms_spec (ws := ws) h _ (by rw [hw]; exact List.mem_cons_self))
    exact ⟨meth, c, h1, h2, h3, h4, h5, h6⟩
  · intro p e s m args below meth c s₁ B hml hP _
    have hh0 : s₁.heap = s.heap := by rw [B.state]; rfl
    obtain ⟨t, a1, o, b1, b2, b3⟩ := body p e s m args below meth c s₁ B hml hP s₁ hh0 (Stand.of_body B)
    exact ⟨t, o, a1, b1, b2, ⟨b3.1, b3.2⟩⟩
theorem zc_of2 {l : Launch} {α : Type} {M : Zm} {τ : Nat} {cvt : α → Option Value × Zh} {ls en : List (Option (Value × Nat))} {h : Zh} {g : Option α} {y : MethodName} {as : List (Value × Nat)} {j : Nat} (hy : plainFor y = true) (hn : y.name = mN M) (ho : y.cls = mO M) (he : zEn as = en) (hl : en.length ≤ mL M) (hs : en ++ List.replicate j none = ls) (k : V l M (zN h) (zS h) τ cvt 0 ls [] h g) : Zc l y M τ h as (g.map cvt) := by
  subst he
  intro o ho'
  obtain ⟨a, ha, rfl⟩ := Option.map_eq_some_iff.mp ho'
  obtain ⟨h1, h2⟩ := k a ha
  refine ⟨h1, fun wf to D cA ρ sz => ?_⟩
  refine zMet (cc := mC M) (maxL := mL M) (ret := mR M) hy rfl ?_
  intro p e s m args below meth c s₁ B hml hv
  obtain ⟨rfl, hsz, fx, hP, hD⟩ := hv
  have hts := atoms_spec (ws := Cond.code y (mC M) (mL M) (mR M) :: zT) B.pre
  have hown : s.vm.findClass y.cls = some m.cls := findClass_of_methodNamed B.named
  have hnm : meth.name = y.name := (name_of_methodNamed B.named B.method).1
  have hlv := lv_entry (as.map (fun q => zcv ρ q.1)) (n := mL M) (by rw [zsl_len]; exact hl)
  rw [lg_entry_eq]
  generalize (lg_sl (as.map (fun q => zcv ρ q.1)) ++ List.replicate (mL M - (lg_sl (as.map (fun q => zcv ρ q.1))).length) Slot.unset).toArray = L at hlv ⊢
  have hat : ∀ (i : Nat) (q : Value × Nat), ls[i]? = some (some q) → (zEn as)[i]? = some (some q) := by
    intro i q hq
    rw [← hs] at hq
    by_cases hi : i < (zEn as).length
    · rwa [List.getElem?_append_left hi] at hq
    · rw [List.getElem?_append_right (by omega)] at hq
      have := List.mem_of_getElem? hq
      rw [List.mem_replicate] at this
      cases this.2
  subst hsz
  refine h2 wf (fun q hq => ?_) (fun q hq => by cases hq) p e _ s m _ below meth c D cA ρ ρ s.heap [] L 0 0 ⟨B.exec, B.bytes, hml, ho ▸ hown, fun w hw => hts w (List.mem_cons_of_mem _ hw), B.notSynchronized, B.returns, hnm.trans hn, fx, rfl, rfl⟩ ⟨fun _ _ => rfl, hP, hD, va_S.rf, Nat.zero_add _, Nat.zero_add _⟩ ⟨hlv.1, hlv.2.1, fun i q hq => ?_⟩ ?_ ?_
  · obtain ⟨i, hi⟩ := List.getElem?_of_mem hq
    exact to q (zEn_at ρ as 0 i q (hat i q hi)).2
  · have := (zEn_at ρ as 0 i q (hat i q hq)).1
    rw [Nat.zero_add] at this
    exact hlv.2.2 _ this
  · show zN (cvt a).2 - zN h + zN h = _
    have := h1.1
    omega
  · show zS (cvt a).2 - zS h + zS h = _
    have := h1.2.1
    omega
