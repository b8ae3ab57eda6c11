def zok (x : Int32) : Bool := decide (¬ x < 0) && decide (x.toNatClampNeg ≤ 60000000)
section ZN
variable {l : Launch} {α : Type} {M : Zm} {n0 s0 τ : Nat} {cvt : α → Option Value × Zh} {pc : Nat} {ls ls2 : List (Option (Value × Nat))} {st : List (Value × Nat)} {h : Zh} {g : Option α}
theorem zRA_i {D : va_G} {cA : Nat → ClassId} {c' : ClassId} {s : State} (h : va_K D zCl (zTys cA ++ [(c', .int)]) s) : c' = cA 20 := by
  have h1 : s.vm.findClass ("[" ++ (FieldType.int).toString) = some c' := (h.2 6 (c', .int) rfl).2
  have h2 : s.vm.findClass ("[" ++ (FieldType.int).toString) = some (cA 20) := (h.2 0 (cA 20, .int) rfl).2
  exact Option.some.inj (h1.symm.trans h2)
theorem zRA_j {D : va_G} {cA : Nat → ClassId} {c' : ClassId} {s : State} (h : va_K D zCl (zTys cA ++ [(c', .long)]) s) : c' = cA 21 := by
  have h1 : s.vm.findClass ("[" ++ (FieldType.long).toString) = some c' := (h.2 6 (c', .long) rfl).2
  have h2 : s.vm.findClass ("[" ++ (FieldType.long).toString) = some (cA 21) := (h.2 1 (cA 21, .long) rfl).2
  exact Option.some.inj (h1.symm.trans h2)
theorem zRA_q {D : va_G} {cA : Nat → ClassId} {c' : ClassId} {s : State} {q t0 : Nat} {C : String} (ht : (zTys cA)[t0]? = some (cA q, .object C)) (h : va_K D zCl (zTys cA ++ [(c', .object C)]) s) : c' = cA q := by
  obtain ⟨_, _, _, _, _, h1⟩ := (h.2 6 (c', .object C) rfl).2
  have hl : t0 < (zTys cA).length := (List.getElem?_eq_some_iff.mp ht).1
  obtain ⟨_, _, _, _, _, h2⟩ := (h.2 t0 (cA q, .object C) (by rw [List.getElem?_append_left hl]; exact ht)).2
  exact Option.some.inj (h1.symm.trans h2)
theorem v_newi {x : Int32} {a : Nat} (hw : Cond.arrayClass .int ∈ zT) (hd : decode (mC M) pc = .ok (.newarray .int, 2)) (kk : V l M n0 s0 τ cvt (pc + 2) ls ((.ref (zN h), 20) :: st) (zA h 20 (zx x)) g) : V l M n0 s0 τ cvt pc ls ((.int x, a) :: st) h (zg (zok x) g) := by
  refine v_g (fun hok => ?_)
  simp only [zok, Bool.and_eq_true, decide_eq_true_eq] at hok
  refine v_alloc (a := 0) kk (fun t => t.tl) (fun p e R s m args below meth c D cA ρ0 ρ H locs L cells slots Q cx hP hD hS hc hs k => ?_)
  refine va_newa (atype := .int) (a0 := (zx x, .inl (fun _ => 0))) cx.1 cx.2.1 (cx.2.2.2.2.1 _ hw) rfl cx.2.2.2.2.2.2.2.2.1.1 hP hD hS (fun q hq => Or.inr hq) (fun _ => rfl) hok.1 rfl (by show x.toNatClampNeg * 4 ≤ _; omega) hc hs hd (fun q cA' H1 hK q1 q2 q3 => ?_)
  have e1 := zRA_i hK
  subst e1
  have e : zE cA (zup ρ (zN h) q) (zA h 20 (zx x)) (zN h) = .inl (cA 20, zx x, .inl (fun _ => 0)) := by
    rw [zE_i zK_A, zL_A, show zI (zA h 20 (zx x)) (zN h) = fun _ => 0 from funext (fun _ => zI_A)]
  refine k q H1 ?_ ?_ q3 <;> rw [e] <;> assumption
theorem v_newj {x : Int32} {a : Nat} (hw : Cond.arrayClass .long ∈ zT) (hd : decode (mC M) pc = .ok (.newarray .long, 2)) (kk : V l M n0 s0 τ cvt (pc + 2) ls ((.ref (zN h), 21) :: st) (zA h 21 (zx x)) g) : V l M n0 s0 τ cvt pc ls ((.int x, a) :: st) h (zg (zok x) g) := by
  refine v_g (fun hok => ?_)
  simp only [zok, Bool.and_eq_true, decide_eq_true_eq] at hok
  refine v_alloc (a := 0) kk (fun t => t.tl) (fun p e R s m args below meth c D cA ρ0 ρ H locs L cells slots Q cx hP hD hS hc hs k => ?_)
  refine va_newa (atype := .long) (a0 := (zx x, .inr (.inl (fun _ => 0)))) cx.1 cx.2.1 (cx.2.2.2.2.1 _ hw) rfl cx.2.2.2.2.2.2.2.2.1.1 hP hD hS (fun q hq => Or.inr hq) (fun _ => rfl) hok.1 rfl (by show x.toNatClampNeg * 8 ≤ _; omega) hc hs hd (fun q cA' H1 hK q1 q2 q3 => ?_)
  have e1 := zRA_j hK
  subst e1
  have e : zE cA (zup ρ (zN h) q) (zA h 21 (zx x)) (zN h) = .inl (cA 21, zx x, .inr (.inl (fun _ => 0))) := by
    rw [zE_j zK_A, zL_A, show zJ (zA h 21 (zx x)) (zN h) = fun _ => 0 from funext (fun _ => zJ_A)]
  refine k q H1 ?_ ?_ q3 <;> rw [e] <;> assumption
theorem v_newq {q t0 ct idx a : Nat} {C : String} {x : Int32} (hq : zQa q t0 ct C) (hcl : Cond.classLink (mO M) idx C ∈ zT) (hd : decode (mC M) pc = .ok (.anewarray idx, 3)) (kk : V l M n0 s0 τ cvt (pc + 3) ls ((.ref (zN h), q) :: st) (zA h q (zx x)) g) : V l M n0 s0 τ cvt pc ls ((.int x, a) :: st) h (zg (zok x) g) := by
  refine v_g (fun hok => ?_)
  simp only [zok, Bool.and_eq_true, decide_eq_true_eq] at hok
  refine v_alloc (a := 0) kk (fun t => t.tl) (fun p e R s m args below meth c D cA ρ0 ρ H locs L cells slots Q cx hP hD hS hc hs k => ?_)
  have fx := cx.2.2.2.2.2.2.2.2.1
  refine va_newq (N' := zx x) cx.1 cx.2.1 cx.2.2.2.1 (cx.2.2.2.2.1 _ hcl) (fx.2.1 C hq.2.2.2.1) fx.1 hP hD hS (fun q hq => Or.inr hq) hok.1 rfl (by show x.toNatClampNeg * 4 ≤ _; omega) hc hs hd (fun y cA' H1 hK q1 q2 q3 => ?_)
  have e1 := zRA_q (hq.2.1 cA) hK
  subst e1
  have e : zE cA (zup ρ (zN h) y) (zA h q (zx x)) (zN h) = .inl (cA q, zx x, .inr (.inr (.inr (.inr (fun _ => none))))) := by
    rw [zE_q zK_A hq.1, zL_A]
    simp only [zR_A]
    rfl
  refine k y H1 ?_ ?_ q3 <;> rw [e] <;> assumption
/-- which kinds a row of references takes -/
theorem zAsg {D : va_G} {cA : Nat → ClassId} {s : State} {t ct : Nat} {C C' : String} {T T' : u_T} {N N' : Nat} (fx : zFx D cA s) (hc : zCl[ct]? = some (C, T, N)) (hc' : zCl[t]? = some (C', T', N')) (h : zSub t ct) : s.vm.assignable (D.1 t) (D.1 ct) = true := by
  rcases h with rfl | ⟨rfl, rfl | rfl⟩ | ⟨rfl, rfl⟩
  · exact va_asg _ _
  all_goals
    obtain ⟨-, f1, -⟩ := fx.1.1 _ _ hc
    obtain ⟨-, f2, -⟩ := fx.1.1 _ _ hc'
    cases hc
    cases hc'
  · obtain ⟨a, b, g1, g2, g3⟩ := Cond.castable_spec (va_Nw.use (A := #[]) rfl (fx.2.2.2.1 ("MagnetRows$Turned", "MagnetRows$Plain") (by simp [zCs])))
    cases f1.symm.trans g2
    cases f2.symm.trans g1
    exact g3
  · obtain ⟨a, b, g1, g2, g3⟩ := Cond.castable_spec (va_Nw.use (A := #[]) rfl (fx.2.2.2.1 ("MagnetRows$Signed", "MagnetRows$Plain") (by simp [zCs])))
    cases f1.symm.trans g2
    cases f2.symm.trans g1
    exact g3
  · obtain ⟨a, b, g1, g2, g3⟩ := Cond.castable_spec (va_Nw.use (A := #[]) rfl (fx.2.2.2.1 ("MagnetRows$Signed", "MagnetRows$Turned") (by simp [zCs])))
    cases f1.symm.trans g2
    cases f2.symm.trans g1
    exact g3
theorem zCl_at {t ct : Nat} (h13 : ct < 13) (h : zSub t ct) : ∃ (C : String) (T : u_T) (N : Nat), zCl[t]? = some (C, T, N) := by
  have ht : t < 13 := by
    rcases h with h | h | h <;> omega
  have hl : t < zCl.length := ht
  exact ⟨_, _, _, List.getElem?_eq_getElem hl⟩
theorem v_aast {i a b q t0 ct : Nat} {C : String} {x : Int32} {r : Option Nat} (hq : zQa q t0 ct C) (hb : ∀ t, zSub t b → zSub t ct) (h13 : ct < 13) (hd : decode (mC M) pc = .ok (.aastore, 1)) (kk : V l M n0 s0 τ cvt (pc + 1) ls st (zsR h i (zx x) r) g) : V l M n0 s0 τ cvt pc ls ((va_rf r, b) :: (.int x, a) :: (.ref i, q) :: st) h (zg (zin x (zL h i)) g) := by
  refine v_g (fun hin => ?_)
  intro o ho
  obtain ⟨h1, h2⟩ := kk o ho
  refine ⟨h1, fun wf tl to p e R s m args below meth c' D cA ρ0 ρ H locs L cells slots cx rl lv r1 r2 => ?_⟩
  obtain ⟨hi, hs⟩ := to.tl.tl.hd i rfl
  have hk : zK h i = q := zSub_q hq.1 hs
  have fx := cx.2.2.2.2.2.2.2.2.1
  have wf' : zWf (zsR h i (zx x) r) := zWf_sR wf (fun j hj => ⟨(zTok_rf to.hd j hj).1, fun _ => by rw [hk, hq.2.2.1]; exact hb _ (zTok_rf to.hd j hj).2⟩)
  have hat : (zWs cA ρ h)[i]? = some (ρ i, .inl (cA q, zL h i, .inr (.inr (.inr (.inr (fun k => (zR h i k).map ρ)))))) := (zWs_at hi).trans (by rw [zE_q hk hq.1])
  have hw : zWs cA ρ (zsR h i (zx x) r) = (zWs cA ρ h).set i (ρ i, .inl (cA q, zL h i, .inr (.inr (.inr (.inr (va_up (fun k => (zR h i k).map ρ) x.toNatClampNeg (r.map ρ))))))) := by
    refine zWs_set rfl (fun j hj => zE_sR hj) ((zE_q (h := zsR h i (zx x) r) hk hq.1).trans ?_)
    have e : (fun k => (zR (zsR h i (zx x) r) i k).map ρ) = va_up (fun k => (zR h i k).map ρ) x.toNatClampNeg (r.map ρ) := by
      funext j
      by_cases hj : j = x.toNatClampNeg
      · simp [zR, zsR, zU, va_up, zx, hj]
      · simp [zR, zsR, zU, va_up, zx, hj]
    rw [e]
    rfl
  have go : ∀ (H1 : Heap) (locs1 : List Loc), va_P D zCl (zWs cA ρ (zsR h i (zx x) r)) H1 → va_D (zAf ρ0 n0 s.heap.size) (zWs cA ρ (zsR h i (zx x) r)) → va_S (zAf ρ0 n0 s.heap.size) s.heap H1 locs1 → _ := fun H1 locs1 q1 q2 q3 => h2 wf' tl to.tl.tl.tl p e R s m args below meth c' D cA ρ0 ρ H1 locs1 L cells slots cx ⟨rl.1, q1, q2, q3, rl.2.2.2.2⟩ lv r1 r2
  rw [hw] at go
  cases r with
  | none => exact va_astqN cx.1 cx.2.1 fx.1 rl.2.1 rl.2.2.1 rl.2.2.2.1 i t0 hat (hq.2.1 cA) (zin_in hin) hd go
  | some j =>
    obtain ⟨hj, hjs⟩ := zTok_rf to.hd j rfl
    have hsub := hb _ hjs
    obtain ⟨C', T', N', hc'⟩ := zCl_at h13 hsub
    obtain ⟨T, N, hc⟩ := hq.2.2.2.2
    have hlt : zK h j < 13 := by rcases hsub with h | h | h <;> omega
    have hin' := zin_in hin
    have hlt2 : x.toNatClampNeg < zL h i := Nat.not_le.mp fun q => hin' (Or.inr q)
    have h0 : ¬ x < 0 := fun q => hin' (Or.inl q)
    have hv := rl.2.1 j _ (zWs_at hj)
    rw [zE_o rfl hlt] at hv
    obtain ⟨r', hr', cellV, g1, g2, g3, -⟩ := hv
    obtain ⟨kA, comp, k1, k2, k3, -⟩ := (fx.1.2 t0 _ (hq.2.1 cA)).2
    have hcls := (fx.1.1 ct _ hc).2
    have hcls' := (fx.1.1 (zK h j) _ hc').2
    have hcomp : comp = D.1 ct := Option.some.inj (k3.symm.trans hcls.1)
    subst hcomp
    obtain ⟨kC, hkC, -⟩ := hcls.2
    obtain ⟨kC', hkC', -⟩ := hcls'.2
    have ha : H[ρ i]? = some (vp_cell (cA q) (zL h i, .inr (.inr (.inr (.inr (fun k => (zR h i k).map ρ)))))) := rl.2.1 i _ hat
    refine W.aast cx.1 cx.2.1 ha (fun q h => by cases h) (fun h => by cases h) k1 k2 rfl hkC ⟨h0, by show _ < (arrV _ _ _).slots.size; rw [arrV_size]; exact hlt2⟩ g1 (fun q h => by rw [g3] at h; cases h) (by rw [g2]; exact hkC') (by rw [g2]; exact zAsg fx hc hc' hsub) rfl rfl hd fun H1 e z oq => ?_
    refine go H1 _ (rl.2.1.set rl.2.2.1 hat ?_ oq) (rl.2.2.1.set hat) (rl.2.2.2.1.put z oq (rl.2.2.1.2 i _ hat))
    show H1[ρ i]? = some (vp_cell _ _)
    rw [e]
    rw [vp_cell_q, vp_cell_q, arrV_store]
    congr 2
    funext q
    by_cases hq : q = x.toNatClampNeg
    · subst hq
      simp [updV, va_up, va_rf]
    · simp [updV, va_up, hq]
end ZN
