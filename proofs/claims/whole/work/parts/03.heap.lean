/-! the small heap: cells by number; a cell's kind (class number, or 20 int[], 21 long[], 22 .. 25 arrays of Chain, Plain, Sheet, Sum) and length; its ints, longs, references -/
abbrev Zh : Type := Nat × Nat × (Nat → Nat × Nat) × (Nat → Nat → Int32) × (Nat → Nat → Int64) × (Nat → Nat → Option Nat)
def zN (h : Zh) : Nat := h.1
def zS (h : Zh) : Nat := h.2.1
def zK (h : Zh) (i : Nat) : Nat := (h.2.2.1 i).1
def zL (h : Zh) (i : Nat) : Nat := (h.2.2.1 i).2
def zI (h : Zh) (i k : Nat) : Int32 := h.2.2.2.1 i k
def zJ (h : Zh) (i k : Nat) : Int64 := h.2.2.2.2.1 i k
def zR (h : Zh) (i k : Nat) : Option Nat := h.2.2.2.2.2 i k
def zU {α : Type} (f : Nat → Nat → α) (i k : Nat) (v : α) : Nat → Nat → α := fun a b => if a = i ∧ b = k then v else f a b
def zsI (h : Zh) (i k : Nat) (v : Int32) : Zh := (h.1, h.2.1, h.2.2.1, zU h.2.2.2.1 i k v, h.2.2.2.2.1, h.2.2.2.2.2)
def zsJ (h : Zh) (i k : Nat) (v : Int64) : Zh := (h.1, h.2.1, h.2.2.1, h.2.2.2.1, zU h.2.2.2.2.1 i k v, h.2.2.2.2.2)
def zsR (h : Zh) (i k : Nat) (v : Option Nat) : Zh := (h.1, h.2.1, h.2.2.1, h.2.2.2.1, h.2.2.2.2.1, zU h.2.2.2.2.2 i k v)
def zA (h : Zh) (t n : Nat) : Zh := (h.1 + 1, h.2.1 + n, fun i => if i = h.1 then (t, n) else h.2.2.1 i, fun i k => if i = h.1 then 0 else h.2.2.2.1 i k, fun i k => if i = h.1 then 0 else h.2.2.2.2.1 i k, fun i k => if i = h.1 then none else h.2.2.2.2.2 i k)
def zcI (h : Zh) (i sp j dp n : Nat) : Zh := (h.1, h.2.1, h.2.2.1, fun a b => if a = j then va_cpy (h.2.2.2.1 i) (h.2.2.2.1 j) sp dp n b else h.2.2.2.1 a b, h.2.2.2.2.1, h.2.2.2.2.2)
def zcJ (h : Zh) (i sp j dp n : Nat) : Zh := (h.1, h.2.1, h.2.2.1, h.2.2.2.1, fun a b => if a = j then va_cpy (h.2.2.2.2.1 i) (h.2.2.2.2.1 j) sp dp n b else h.2.2.2.2.1 a b, h.2.2.2.2.2)
/-- fields of a class by number: 0 int, 1 long, 2 boolean, 100 and a kind: a reference -/
def zF (t : Nat) : List Nat := match t with
  | 0 => [0, 2, 0, 0, 0, 0]
  | 1 => [120, 121, 121, 121, 121, 121, 121, 121, 121]
  | 2 => [122, 125, 0, 0]
  | 3 => [120, 120, 120, 120, 120, 120, 0, 2, 1, 1]
  | 4 => [0, 0, 0, 0]
  | 5 => [120, 120, 121, 121, 121, 121, 121, 121, 121, 121, 100, 0, 0, 0, 2, 2, 2, 0]
  | 6 => [0, 120]
  | 7 => [0, 0, 0, 0]
  | 8 => [120, 120, 120]
  | 9 => [0]
  | 10 => [0, 0, 0, 0]
  | 11 => [102, 123, 124, 109, 0, 0, 105, 101, 103]
  | 12 => [0, 0, 2, 0, 0, 0, 120, 120, 120, 120, 121, 121, 121, 121, 121, 121, 121, 121, 121, 0, 120, 120, 120, 120, 121, 121, 121, 121, 121, 120, 120, 120, 120, 121, 121, 120, 0, 0, 120, 120, 120, 120, 0]
  | _ => []
def zCl : List vw_C := [(RX0, TX0, 6), (RX1, TX1, 9), (RX2, TX2, 4), (RX3, TX3, 10), (RX4, TX4, 4), (RX5, TX5, 18), (RX6, TX6, 2), (RX7, TX7, 4), (RX8, TX8, 3), (RX9, TX9, 1), (RX10, TX10, 4), (RX11, TX11, 9), (RX12, TX12, 43)]
/-- the tables' words that stay -/
def zT : List Cond := lw_tbl.filter goodWord
theorem zT_good : ∀ w ∈ zT, w ∈ zT ∧ ((w.onTables && w.keeps) = true ∨ ∃ ty, w = .arrayClass ty) := fun w h => ⟨h, good_of_word (by simpa using (List.mem_filter.mp h).2)⟩
theorem zT_of {i : Nat} {w : Cond} (h : (lw_tbl[i]? == some w && goodWord w) = true) : w ∈ zT := by
  simp only [Bool.and_eq_true, beq_iff_eq] at h
  exact List.mem_filter.mpr ⟨List.mem_of_getElem? h.1, h.2⟩
def zTys (cA : Nat → ClassId) : List (ClassId × FieldType) := [(cA 20, .int), (cA 21, .long), (cA 22, .object "MagnetRows$Chain"), (cA 23, .object "MagnetRows$Plain"), (cA 24, .object "MagnetRows$Sheet"), (cA 25, .object "MagnetRows$Sum")]
def zOv : List String := ["MagnetRows$Chain", "MagnetRows$Plain", "MagnetRows$Sheet", "MagnetRows$Sum"]
def zNc : List (String × String) := [("MagnetRows$Plain", "MagnetRows$Turned"), ("MagnetRows$Plain", "MagnetRows$Signed"), ("MagnetRows$Turned", "MagnetRows$Signed")]
def zCs : List (String × String) := [("MagnetRows$Turned", "MagnetRows$Plain"), ("MagnetRows$Signed", "MagnetRows$Plain"), ("MagnetRows$Signed", "MagnetRows$Turned"), ("[I", "java/lang/Cloneable")]
def zMn : List (String × Nat × MethodName × String) := [("MagnetRows", 39, ⟨"MagnetRows$Trail", "<init>", "()V"⟩, "MagnetRows"), ("MagnetRows", 349, ⟨"MagnetRows$Sector", "<init>", "()V"⟩, "MagnetRows"), ("MagnetRows", 354, ⟨"MagnetRows$Ice", "<init>", "()V"⟩, "MagnetRows"), ("MagnetRows", 355, ⟨"MagnetRows$Mixer", "<init>", "()V"⟩, "MagnetRows")]
/-- what holds of the classes -/
def zFx (D : va_G) (cA : Nat → ClassId) (s : State) : Prop := va_K D zCl (zTys cA) s ∧ (∀ C ∈ zOv, va_AO C s) ∧ (∀ q ∈ zNc, va_Nc q.1 q.2 s) ∧ (∀ q ∈ zCs, va_Nw (.castable q.1 q.2) s) ∧ (∀ q ∈ zMn, va_Nw (.methodLinkNest q.1 q.2.1 q.2.2.1 q.2.2.2) s)
theorem zFx.moved {D : va_G} {cA : Nat → ClassId} {s U : State} (hW : s.WarmedH U.vm) (h : zFx D cA s) : zFx D cA U :=
  ⟨va_K.moved hW.alike h.1, fun C hC => (h.2.1 C hC).moved hW.alike, fun q hq => (h.2.2.1 q hq).moved hW.alike, fun q hq => va_Nw.warmC hW (h.2.2.2.1 q hq), fun q hq => va_Nw.warmM hW (h.2.2.2.2 q hq)⟩
theorem zFx.same {D : va_G} {cA : Nat → ClassId} {s U : State} (hv : U.vm = s.vm) (h : zFx D cA s) : zFx D cA U :=
  have ha : s.vm.Alike U.vm := by rw [hv]; exact Vm.Alike.refl _
  ⟨va_K.moved ha h.1, fun C hC => (h.2.1 C hC).moved ha, fun q hq => (h.2.2.1 q hq).moved ha, fun q hq => va_Nw.same rfl hv.symm (h.2.2.2.1 q hq), fun q hq => va_Nw.same rfl hv.symm (h.2.2.2.2 q hq)⟩
/-- a value, its references by number, as it stands in the machine -/
def zcv (ρ : Nat → Nat) (v : Value) : Value := match v with
  | .ref a => .ref (ρ a)
  | v => v
theorem zcv_rf (ρ : Nat → Nat) (o : Option Nat) : zcv ρ (va_rf o) = va_rf (o.map ρ) := by cases o <;> rfl
def zFv (ρ : Nat → Nat) (h : Zh) (i k c : Nat) : Value := if c = 1 then .long (zJ h i k) else if c < 3 then .int (zI h i k) else va_rf ((zR h i k).map ρ)
def zE (cA : Nat → ClassId) (ρ : Nat → Nat) (h : Zh) (i : Nat) : va_E :=
  if zK h i = 20 then .inl (cA 20, zL h i, .inl (zI h i))
  else if zK h i = 21 then .inl (cA 21, zL h i, .inr (.inl (zJ h i)))
  else if zK h i < 20 then .inr (zK h i, (List.range (zF (zK h i)).length).map (fun k => zFv ρ h i k ((zF (zK h i)).getD k 0)))
  else .inl (cA (zK h i), zL h i, .inr (.inr (.inr (.inr (fun k => (zR h i k).map ρ)))))
def zWs (cA : Nat → ClassId) (ρ : Nat → Nat) (h : Zh) : va_W := (List.range (zN h)).map (fun i => (ρ i, zE cA ρ h i))
theorem zWs_at {cA : Nat → ClassId} {ρ : Nat → Nat} {h : Zh} {i : Nat} (hi : i < zN h) : (zWs cA ρ h)[i]? = some (ρ i, zE cA ρ h i) := by
  simp [zWs, List.getElem?_map, List.getElem?_range hi]
def zSub (t τ : Nat) : Prop := t = τ ∨ (τ = 4 ∧ (t = 10 ∨ t = 7)) ∨ (τ = 10 ∧ t = 7)
/-- of which kind a reference at a place is -/
def zTc (t k : Nat) : Nat := if t = 22 then 0 else if t = 23 then 4 else if t = 24 then 6 else if t = 25 then 8 else (zF t).getD k 0 - 100
def zWf (h : Zh) : Prop := ∀ (i k j : Nat), zR h i k = some j → j < zN h ∧ (i < zN h → zSub (zK h j) (zTc (zK h i) k))
def zTok (h : Zh) (q : Value × Nat) : Prop := ∀ i, q.1 = .ref i → i < zN h ∧ zSub (zK h i) q.2
def zTo (h : Zh) (l : List (Value × Nat)) : Prop := ∀ q ∈ l, zTok h q
def zTl (h : Zh) (l : List (Option (Value × Nat))) : Prop := ∀ q, some q ∈ l → zTok h q
def zLe (h h' : Zh) : Prop := zN h ≤ zN h' ∧ zS h ≤ zS h' ∧ ∀ i, i < zN h → zK h' i = zK h i ∧ zL h' i = zL h i
theorem zLe.rfl' (h : Zh) : zLe h h := ⟨Nat.le_refl _, Nat.le_refl _, fun _ _ => ⟨rfl, rfl⟩⟩
theorem zLe.tr {a b c : Zh} (h : zLe a b) (k : zLe b c) : zLe a c := ⟨Nat.le_trans h.1 k.1, Nat.le_trans h.2.1 k.2.1, fun i hi => ⟨((k.2.2 i (Nat.lt_of_lt_of_le hi h.1)).1).trans (h.2.2 i hi).1, ((k.2.2 i (Nat.lt_of_lt_of_le hi h.1)).2).trans (h.2.2 i hi).2⟩⟩
theorem zTok.le {h h' : Zh} (hl : zLe h h') {q : Value × Nat} (t : zTok h q) : zTok h' q := fun i e => ⟨Nat.lt_of_lt_of_le (t i e).1 hl.1, by rw [(hl.2.2 i (t i e).1).1]; exact (t i e).2⟩
theorem zTo.le {h h' : Zh} (hl : zLe h h') {q : List (Value × Nat)} (t : zTo h q) : zTo h' q := fun x hx => (t x hx).le hl
theorem zTl.le {h h' : Zh} (hl : zLe h h') {q : List (Option (Value × Nat))} (t : zTl h q) : zTl h' q := fun x hx => (t x hx).le hl
/-- a method: its code, its locals, its class, what it gives, its name, its frames and words of locals -/
abbrev Zm : Type := ByteArray × Nat × String × Option FieldType × String × Nat × Nat
def mC (M : Zm) : ByteArray := M.1
def mL (M : Zm) : Nat := M.2.1
def mO (M : Zm) : String := M.2.2.1
def mR (M : Zm) : Option FieldType := M.2.2.2.1
def mN (M : Zm) : String := M.2.2.2.2.1
def mF (M : Zm) : Nat := M.2.2.2.2.2.1
def mW (M : Zm) : Nat := M.2.2.2.2.2.2
def zCx (M : Zm) (p : Program) (R : Room) (s : State) (m : MethodId) (args : Array Value) (meth : Method) (c : Code) (D : va_G) (cA : Nat → ClassId) : Prop :=
  p.tables.exec = Jvm.exec ∧ c.code = mC M ∧ c.maxLocals = mL M ∧ s.vm.findClass (mO M) = some m.cls ∧ (∀ w ∈ zT, w.before args s = true) ∧ meth.locks = false ∧ meth.sig.returnType = mR M ∧ meth.name = mN M ∧ zFx D cA s ∧ R.frames = mF M ∧ R.locals = mW M
/-- the cells that a method may change: those of its heap, and new ones -/
def zAf (ρ : Nat → Nat) (n sz : Nat) : Nat → Prop := fun q => (∃ i, i < n ∧ ρ i = q) ∨ sz ≤ q
def zRl (D : va_G) (cA : Nat → ClassId) (ρ0 : Nat → Nat) (n0 s0 : Nat) (H0 : Heap) (ρ : Nat → Nat) (h : Zh) (H : Heap) (locs : List Loc) (cells slots : Nat) : Prop :=
  (∀ i, i < n0 → ρ i = ρ0 i) ∧ va_P D zCl (zWs cA ρ h) H ∧ va_D (zAf ρ0 n0 H0.size) (zWs cA ρ h) ∧ va_S (zAf ρ0 n0 H0.size) H0 H locs ∧ cells + n0 = zN h ∧ slots + s0 = zS h
def zLv (L : Array Slot) (nL : Nat) (ρ : Nat → Nat) (ls : List (Option (Value × Nat))) : Prop := L.size = nL ∧ lv_wf L ∧ ∀ (i : Nat) (q : Value × Nat), ls[i]? = some (some q) → L[i]? = some (Slot.val (zcv ρ q.1))
/-- a method's end -/
def zQc (D : va_G) (cA : Nat → ClassId) (ρ0 : Nat → Nat) (n0 sz τ : Nat) (o : Option Value × Zh) : Array Value → State → Outcome → State → Prop := fun _ st oc t =>
  (∃ ρ : Nat → Nat, (∀ i, i < n0 → ρ i = ρ0 i) ∧ oc = .returned (o.1.map (zcv ρ)) ∧ va_P D zCl (zWs cA ρ o.2) t.heap ∧ va_D (zAf ρ0 n0 sz) (zWs cA ρ o.2)) ∧ va_F (zAf ρ0 n0 sz) st t ∧ zWf o.2 ∧ (∀ v, o.1 = some v → zTok o.2 (v, τ))
section ZV
variable (l : Launch)
/-- from here the method comes to its end with what g says -/
def V {α : Type} (M : Zm) (n0 s0 τ : Nat) (cvt : α → Option Value × Zh) (pc : Nat) (ls : List (Option (Value × Nat))) (st : List (Value × Nat)) (h : Zh) (g : Option α) : Prop :=
  ∀ o, g = some o → zLe h (cvt o).2 ∧ (zWf h → zTl h ls → zTo h st → ∀ (p : Program) (e : Env) (R : Room) (s : State) (m : MethodId) (args : Array Value) (below : List Frame) (meth : Method) (c : Code) (D : va_G) (cA : Nat → ClassId) (ρ0 ρ : Nat → Nat) (H : Heap) (locs : List Loc) (L : Array Slot) (cells slots : Nat),
    zCx M p R s m args meth c D cA → zRl D cA ρ0 n0 s0 s.heap ρ h H locs cells slots → zLv L (mL M) ρ ls → R.cells + n0 = zN (cvt o).2 → R.slots + s0 = zS (cvt o).2 →
    W p l e R s m args below meth c H locs cells slots (MQ below (zQc D cA ρ0 n0 s.heap.size τ (cvt o)) args s (zN (cvt o).2 - n0) (zS (cvt o).2 - s0) (zAf ρ0 n0 s.heap.size)) (F0 m pc L (st.map (fun q => zcv ρ q.1))))
variable {l} {α : Type} {M : Zm} {n0 s0 τ : Nat} {cvt : α → Option Value × Zh} {pc pc' : Nat} {ls ls' : List (Option (Value × Nat))} {st st' : List (Value × Nat)} {h h' : Zh} {g : Option α}
theorem v_none : V l M n0 s0 τ cvt pc ls st h none := fun o ho => by cases ho
/-- a step that touches neither heap nor locals -/
theorem v_pure (k : V l M n0 s0 τ cvt pc' ls st' h g) (ht : zTl h ls → zTo h st → zTo h st')
    (hw : ∀ (p : Program) (e : Env) (R : Room) (s : State) (m : MethodId) (args : Array Value) (below : List Frame) (meth : Method) (c : Code) (ρ : Nat → Nat) (H : Heap) (locs : List Loc) (L : Array Slot) (cells slots : Nat) (Q : State → Prop), p.tables.exec = Jvm.exec → c.code = mC M → s.vm.findClass (mO M) = some m.cls → (∀ w ∈ zT, w.before args s = true) → zLv L (mL M) ρ ls →
      W p l e R s m args below meth c H locs cells slots Q (F0 m pc' L (st'.map (fun q => zcv ρ q.1))) → W p l e R s m args below meth c H locs cells slots Q (F0 m pc L (st.map (fun q => zcv ρ q.1)))) : V l M n0 s0 τ cvt pc ls st h g := by
  intro o ho
  obtain ⟨h1, h2⟩ := k o ho
  refine ⟨h1, fun wf tl to p e R s m args below meth c D cA ρ0 ρ H locs L cells slots cx rl lv r1 r2 => ?_⟩
  exact hw p e R s m args below meth c ρ H locs L cells slots _ cx.1 cx.2.1 cx.2.2.2.1 cx.2.2.2.2.1 lv (h2 wf tl (ht tl to) p e R s m args below meth c D cA ρ0 ρ H locs L cells slots cx rl lv r1 r2)
/-- a branch -/
theorem v_br {P : Prop} [Decidable P] {pt pf : Nat} {gt gf : Option α} (kt : V l M n0 s0 τ cvt pt ls st' h gt) (kf : V l M n0 s0 τ cvt pf ls st' h gf) (ht : zTo h st → zTo h st')
    (hw : ∀ (p : Program) (e : Env) (R : Room) (s : State) (m : MethodId) (args : Array Value) (below : List Frame) (meth : Method) (c : Code) (ρ : Nat → Nat) (H : Heap) (locs : List Loc) (L : Array Slot) (cells slots : Nat) (Q : State → Prop), p.tables.exec = Jvm.exec → c.code = mC M →
      (P → W p l e R s m args below meth c H locs cells slots Q (F0 m pt L (st'.map (fun q => zcv ρ q.1)))) → (¬ P → W p l e R s m args below meth c H locs cells slots Q (F0 m pf L (st'.map (fun q => zcv ρ q.1)))) → W p l e R s m args below meth c H locs cells slots Q (F0 m pc L (st.map (fun q => zcv ρ q.1)))) : V l M n0 s0 τ cvt pc ls st h (if P then gt else gf) := by
  intro o ho
  by_cases hP : P
  · rw [if_pos hP] at ho
    obtain ⟨h1, h2⟩ := kt o ho
    refine ⟨h1, fun wf tl to p e R s m args below meth c D cA ρ0 ρ H locs L cells slots cx rl lv r1 r2 => ?_⟩
    exact hw p e R s m args below meth c ρ H locs L cells slots _ cx.1 cx.2.1 (fun _ => h2 wf tl (ht to) p e R s m args below meth c D cA ρ0 ρ H locs L cells slots cx rl lv r1 r2) (fun n => absurd hP n)
  · rw [if_neg hP] at ho
    obtain ⟨h1, h2⟩ := kf o ho
    refine ⟨h1, fun wf tl to p e R s m args below meth c D cA ρ0 ρ H locs L cells slots cx rl lv r1 r2 => ?_⟩
    exact hw p e R s m args below meth c ρ H locs L cells slots _ cx.1 cx.2.1 (fun n => absurd n hP) (fun _ => h2 wf tl (ht to) p e R s m args below meth c D cA ρ0 ρ H locs L cells slots cx rl lv r1 r2)
theorem zTo_nil : zTo h [] := fun _ hq => by cases hq
theorem zTo_cons {q : Value × Nat} (a : zTok h q) (b : zTo h st) : zTo h (q :: st) := fun x hx => by
  rcases List.mem_cons.mp hx with rfl | hx
  · exact a
  · exact b x hx
theorem zTo.hd {q : Value × Nat} (b : zTo h (q :: st)) : zTok h q := b q List.mem_cons_self
theorem zTo.tl {q : Value × Nat} (b : zTo h (q :: st)) : zTo h st := fun x hx => b x (List.mem_cons_of_mem _ hx)
theorem zTok_i {x : Int32} {n : Nat} : zTok h (.int x, n) := fun i e => by cases e
theorem zTok_j {x : Int64} {n : Nat} : zTok h (.long x, n) := fun i e => by cases e
theorem zTok_n {n : Nat} : zTok h (.null, n) := fun i e => by cases e
end ZV
