section ZS
variable {l : Launch} {α : Type} {M : Zm} {n0 s0 τ : Nat} {cvt : α → Option Value × Zh} {pc : Nat} {ls ls2 : List (Option (Value × Nat))} {st : List (Value × Nat)} {h : Zh} {g : Option α}
/-! storing into locals -/
def zcl (a : Option (Value × Nat)) : Option (Value × Nat) := match a with
  | some (.long _, _) => none
  | some (.double _, _) => none
  | a => a
theorem zcl_some {a : Option (Value × Nat)} {x : Value × Nat} (h : zcl a = some x) : a = some x ∧ ¬ x.1.category = 2 := by
  rcases a with _ | ⟨v, n⟩
  · cases h
  · cases v <;> first | (cases h; done) | (cases h; exact ⟨rfl, by simp [Value.category]⟩)
def zst1 (q : Value × Nat) : Nat → List (Option (Value × Nat)) → List (Option (Value × Nat))
  | _, [] => []
  | 0, _ :: t => some q :: t
  | 1, [a] => [zcl a]
  | 1, a :: _ :: t => zcl a :: some q :: t
  | n + 2, a :: t => a :: zst1 q (n + 1) t
def zst2 (q : Value × Nat) : Nat → List (Option (Value × Nat)) → List (Option (Value × Nat))
  | _, [] => []
  | 0, [_] => [none]
  | 0, _ :: _ :: t => some q :: none :: t
  | 1, [_] => [none]
  | 1, [_, _] => [none, none]
  | 1, a :: _ :: _ :: t => zcl a :: some q :: none :: t
  | n + 2, a :: t => a :: zst2 q (n + 1) t
theorem zst1_at (q : Value × Nat) : ∀ (i : Nat) (ls : List (Option (Value × Nat))) (j : Nat) (x : Value × Nat), (zst1 q i ls)[j]? = some (some x) → (j = i ∧ x = q) ∨ (j ≠ i ∧ ls[j]? = some (some x) ∧ ¬ (j + 1 = i ∧ x.1.category = 2))
  | i, [], j, x, h => by cases i <;> simp [zst1] at h
  | 0, a :: t, 0, x, h => by simp [zst1] at h; exact Or.inl ⟨rfl, h.symm⟩
  | 0, a :: t, j + 1, x, h => by simp [zst1] at h; exact Or.inr ⟨by omega, by simpa using h, by omega⟩
  | 1, [a], j, x, h => by
    cases j with
    | zero =>
      simp [zst1] at h
      obtain ⟨h1, h2⟩ := zcl_some h
      exact Or.inr ⟨by omega, by simpa using h1, fun q => h2 q.2⟩
    | succ j => simp [zst1] at h
  | 1, a :: b :: t, 0, x, h => by
    simp [zst1] at h
    obtain ⟨h1, h2⟩ := zcl_some h
    exact Or.inr ⟨by omega, by simpa using h1, fun q => h2 q.2⟩
  | 1, a :: b :: t, 1, x, h => by simp [zst1] at h; exact Or.inl ⟨rfl, h.symm⟩
  | 1, a :: b :: t, j + 2, x, h => by simp [zst1] at h; exact Or.inr ⟨by omega, by simpa using h, by omega⟩
  | n + 2, a :: t, 0, x, h => by simp [zst1] at h; exact Or.inr ⟨by omega, by simpa using h, by omega⟩
  | n + 2, a :: t, j + 1, x, h => by
    simp only [zst1, List.getElem?_cons_succ] at h
    rcases zst1_at q (n + 1) t j x h with ⟨h1, h2⟩ | ⟨h1, h2, h3⟩
    · exact Or.inl ⟨by omega, h2⟩
    · exact Or.inr ⟨by omega, by simpa using h2, fun q => h3 ⟨by omega, q.2⟩⟩
theorem zst2_at (q : Value × Nat) : ∀ (i : Nat) (ls : List (Option (Value × Nat))) (j : Nat) (x : Value × Nat), (zst2 q i ls)[j]? = some (some x) → (j = i ∧ x = q) ∨ (j ≠ i ∧ j ≠ i + 1 ∧ ls[j]? = some (some x) ∧ ¬ (j + 1 = i ∧ x.1.category = 2))
  | i, [], j, x, h => by cases i <;> simp [zst2] at h
  | 0, [a], j, x, h => by cases j <;> simp [zst2] at h
  | 0, a :: b :: t, 0, x, h => by simp [zst2] at h; exact Or.inl ⟨rfl, h.symm⟩
  | 0, a :: b :: t, 1, x, h => by simp [zst2] at h
  | 0, a :: b :: t, j + 2, x, h => by simp [zst2] at h; exact Or.inr ⟨by omega, by omega, by simpa using h, by omega⟩
  | 1, [a], j, x, h => by cases j <;> simp [zst2] at h
  | 1, [a, b], j, x, h => by
    rcases j with _ | _ | j <;> simp [zst2] at h
  | 1, a :: b :: c :: t, 0, x, h => by
    simp [zst2] at h
    obtain ⟨h1, h2⟩ := zcl_some h
    exact Or.inr ⟨by omega, by omega, by simpa using h1, fun q => h2 q.2⟩
  | 1, a :: b :: c :: t, 1, x, h => by simp [zst2] at h; exact Or.inl ⟨rfl, h.symm⟩
  | 1, a :: b :: c :: t, 2, x, h => by simp [zst2] at h
  | 1, a :: b :: c :: t, j + 3, x, h => by simp [zst2] at h; exact Or.inr ⟨by omega, by omega, by simpa using h, by omega⟩
  | n + 2, a :: t, 0, x, h => by simp [zst2] at h; exact Or.inr ⟨by omega, by omega, by simpa using h, by omega⟩
  | n + 2, a :: t, j + 1, x, h => by
    simp only [zst2, List.getElem?_cons_succ] at h
    rcases zst2_at q (n + 1) t j x h with ⟨h1, h2⟩ | ⟨h1, h2, h3, h4⟩
    · exact Or.inl ⟨by omega, h2⟩
    · exact Or.inr ⟨by omega, by omega, by simpa using h3, fun q => h4 ⟨by omega, q.2⟩⟩
/-- the locals' values as a list -/
def zpl (ρ : Nat → Nat) (ls : List (Option (Value × Nat))) : List (Nat × Value) := (List.range ls.length).filterMap (fun i => (ls[i]?.join).map (fun q => (i, zcv ρ q.1)))
theorem zpl_mem {ρ : Nat → Nat} {j : Nat} {x : Value × Nat} (hq : ls[j]? = some (some x)) : (j, zcv ρ x.1) ∈ zpl ρ ls := by
  refine List.mem_filterMap.mpr ⟨j, List.mem_range.mpr (List.getElem?_eq_some_iff.mp hq).1, ?_⟩
  rw [hq]; rfl
theorem zpl_has {L : Array Slot} {nL : Nat} {ρ : Nat → Nat} (lv : zLv L nL ρ ls) : lv_has L nL (zpl ρ ls) := by
  refine ⟨lv.1, lv.2.1, fun q hq => ?_⟩
  obtain ⟨i, -, hi⟩ := List.mem_filterMap.mp hq
  cases hx : ls[i]? with
  | none => rw [hx] at hi; cases hi
  | some y =>
    rw [hx] at hi
    cases y with
    | none => cases hi
    | some z =>
      cases hi
      exact lv.2.2 i z hx
theorem zLv_st1 {L : Array Slot} {nL i : Nat} {ρ : Nat → Nat} {q : Value × Nat} {lz : List (Nat × Value)} (hz : ∀ y ∈ zpl ρ ls, y ∈ lz) (lv : lv_has L nL ((i, zcv ρ q.1) :: lz.filter (fun q => !(q.1 == i) && !(q.1 + 1 == i && q.2.category == 2)))) : zLv L nL ρ (zst1 q i ls) := by
  refine ⟨lv.1, lv.2.1, fun j x hx => ?_⟩
  rcases zst1_at q i ls j x hx with ⟨rfl, rfl⟩ | ⟨h1, h2, h3⟩
  · exact lv.2.2 (j, zcv ρ x.1) List.mem_cons_self
  · refine lv.2.2 (j, zcv ρ x.1) (List.mem_cons_of_mem _ (List.mem_filter.mpr ⟨hz _ (zpl_mem h2), ?_⟩))
    simp only [Bool.and_eq_true, Bool.not_eq_true', beq_eq_false_iff_ne, Bool.and_eq_false_imp, beq_iff_eq, ne_eq]
    exact ⟨h1, fun e c => h3 ⟨e, by rw [zcat] at c; exact c⟩⟩
theorem zLv_st2 {L : Array Slot} {nL i : Nat} {ρ : Nat → Nat} {q : Value × Nat} (lv : lv_has L nL ((i, zcv ρ q.1) :: (zpl ρ ls).filter (fun q => !(q.1 == i) && (!(q.1 == i + 1) && !(q.1 + 1 == i && q.2.category == 2))))) : zLv L nL ρ (zst2 q i ls) := by
  refine ⟨lv.1, lv.2.1, fun j x hx => ?_⟩
  rcases zst2_at q i ls j x hx with ⟨rfl, rfl⟩ | ⟨h1, h2, h3, h4⟩
  · exact lv.2.2 (j, zcv ρ x.1) List.mem_cons_self
  · refine lv.2.2 (j, zcv ρ x.1) (List.mem_cons_of_mem _ (List.mem_filter.mpr ⟨zpl_mem h3, ?_⟩))
    simp only [Bool.and_eq_true, Bool.not_eq_true', beq_eq_false_iff_ne, Bool.and_eq_false_imp, beq_iff_eq, ne_eq]
    exact ⟨h1, h2, fun e c => h4 ⟨e, by rw [zcat] at c; exact c⟩⟩
theorem zTl_st1 {q : Value × Nat} {i : Nat} (tl : zTl h ls) (tq : zTok h q) : zTl h (zst1 q i ls) := fun x hx => by
  obtain ⟨j, hj⟩ := List.getElem?_of_mem hx
  rcases zst1_at q i ls j x hj with ⟨_, rfl⟩ | ⟨_, h2, _⟩
  · exact tq
  · exact tl x (List.mem_of_getElem? h2)
theorem zTl_st2 {q : Value × Nat} {i : Nat} (tl : zTl h ls) (tq : zTok h q) : zTl h (zst2 q i ls) := fun x hx => by
  obtain ⟨j, hj⟩ := List.getElem?_of_mem hx
  rcases zst2_at q i ls j x hj with ⟨_, rfl⟩ | ⟨_, _, h2, _⟩
  · exact tq
  · exact tl x (List.mem_of_getElem? h2)
theorem v_istore_n {j : Fin 4} {i a : Nat} {x : Int32} (hd : decode (mC M) pc = .ok (.istore_n j, 1)) (hi : (j : Nat) = i) (hn : i < mL M) (hs : zst1 (.int x, 0) i ls = ls2) (k : V l M n0 s0 τ cvt (pc + 1) ls2 st h g) : V l M n0 s0 τ cvt pc ls ((.int x, a) :: st) h g := by
  intro o ho
  obtain ⟨h1, h2⟩ := k o ho
  refine ⟨h1, fun wf tl to p e R s m args below meth c D cA ρ0 ρ H locs L cells slots cx rl lv r1 r2 => ?_⟩
  subst hs
  exact lv_istore_n cx.1 cx.2.1 hd hi (zpl_has lv) hn rfl (fun L' lv' => h2 wf (zTl_st1 tl zTok_i) to.tl p e R s m args below meth c D cA ρ0 ρ H locs L' cells slots cx rl (zLv_st1 (q := (.int x, 0)) (fun _ h => h) lv') r1 r2)
theorem v_istore {i a : Nat} {x : Int32} (hd : decode (mC M) pc = .ok (.istore i, 2)) (hn : i < mL M) (hs : zst1 (.int x, 0) i ls = ls2) (k : V l M n0 s0 τ cvt (pc + 2) ls2 st h g) : V l M n0 s0 τ cvt pc ls ((.int x, a) :: st) h g := by
  intro o ho
  obtain ⟨h1, h2⟩ := k o ho
  refine ⟨h1, fun wf tl to p e R s m args below meth c D cA ρ0 ρ H locs L cells slots cx rl lv r1 r2 => ?_⟩
  subst hs
  exact lv_istore cx.1 cx.2.1 hd (zpl_has lv) hn rfl (fun L' lv' => h2 wf (zTl_st1 tl zTok_i) to.tl p e R s m args below meth c D cA ρ0 ρ H locs L' cells slots cx rl (zLv_st1 (q := (.int x, 0)) (fun _ h => h) lv') r1 r2)
theorem v_lstore_n {j : Fin 4} {i a : Nat} {x : Int64} (hd : decode (mC M) pc = .ok (.lstore_n j, 1)) (hi : (j : Nat) = i) (hn : i + 1 < mL M) (hs : zst2 (.long x, 0) i ls = ls2) (k : V l M n0 s0 τ cvt (pc + 1) ls2 st h g) : V l M n0 s0 τ cvt pc ls ((.long x, a) :: st) h g := by
  intro o ho
  obtain ⟨h1, h2⟩ := k o ho
  refine ⟨h1, fun wf tl to p e R s m args below meth c D cA ρ0 ρ H locs L cells slots cx rl lv r1 r2 => ?_⟩
  subst hs
  exact lv_lstore_n cx.1 cx.2.1 hd hi (zpl_has lv) hn rfl (fun L' lv' => h2 wf (zTl_st2 tl zTok_j) to.tl p e R s m args below meth c D cA ρ0 ρ H locs L' cells slots cx rl (zLv_st2 (q := (.long x, 0)) lv') r1 r2)
theorem v_lstore {i a : Nat} {x : Int64} (hd : decode (mC M) pc = .ok (.lstore i, 2)) (hn : i + 1 < mL M) (hs : zst2 (.long x, 0) i ls = ls2) (k : V l M n0 s0 τ cvt (pc + 2) ls2 st h g) : V l M n0 s0 τ cvt pc ls ((.long x, a) :: st) h g := by
  intro o ho
  obtain ⟨h1, h2⟩ := k o ho
  refine ⟨h1, fun wf tl to p e R s m args below meth c D cA ρ0 ρ H locs L cells slots cx rl lv r1 r2 => ?_⟩
  subst hs
  exact lv_lstore cx.1 cx.2.1 hd (zpl_has lv) hn rfl (fun L' lv' => h2 wf (zTl_st2 tl zTok_j) to.tl p e R s m args below meth c D cA ρ0 ρ H locs L' cells slots cx rl (zLv_st2 (q := (.long x, 0)) lv') r1 r2)
theorem v_astore_n {j : Fin 4} {i a : Nat} {r : Option Nat} (hd : decode (mC M) pc = .ok (.astore_n j, 1)) (hi : (j : Nat) = i) (hn : i < mL M) (hs : zst1 (va_rf r, a) i ls = ls2) (k : V l M n0 s0 τ cvt (pc + 1) ls2 st h g) : V l M n0 s0 τ cvt pc ls ((va_rf r, a) :: st) h g := by
  intro o ho
  obtain ⟨h1, h2⟩ := k o ho
  refine ⟨h1, fun wf tl to p e R s m args below meth c D cA ρ0 ρ H locs L cells slots cx rl lv r1 r2 => ?_⟩
  subst hs
  have kk := fun L' lv' => h2 wf (zTl_st1 tl to.hd) to.tl p e R s m args below meth c D cA ρ0 ρ H locs L' cells slots cx rl (zLv_st1 (q := (va_rf r, a)) (fun _ h => h) lv') r1 r2
  cases r with
  | none => exact lv_astore_nN cx.1 cx.2.1 hd hi (zpl_has lv) hn rfl kk
  | some x => exact lv_astore_n cx.1 cx.2.1 hd hi (zpl_has lv) hn rfl kk
theorem v_astore {i a : Nat} {r : Option Nat} (hd : decode (mC M) pc = .ok (.astore i, 2)) (hn : i < mL M) (hs : zst1 (va_rf r, a) i ls = ls2) (k : V l M n0 s0 τ cvt (pc + 2) ls2 st h g) : V l M n0 s0 τ cvt pc ls ((va_rf r, a) :: st) h g := by
  intro o ho
  obtain ⟨h1, h2⟩ := k o ho
  refine ⟨h1, fun wf tl to p e R s m args below meth c D cA ρ0 ρ H locs L cells slots cx rl lv r1 r2 => ?_⟩
  subst hs
  have kk := fun L' lv' => h2 wf (zTl_st1 tl to.hd) to.tl p e R s m args below meth c D cA ρ0 ρ H locs L' cells slots cx rl (zLv_st1 (q := (va_rf r, a)) (fun _ h => h) lv') r1 r2
  cases r with
  | none => exact lv_astoreN cx.1 cx.2.1 hd (zpl_has lv) hn rfl kk
  | some x => exact lv_astore cx.1 cx.2.1 hd (zpl_has lv) hn rfl kk
theorem v_iinc {i a : Nat} {n : Int} {x y : Int32} (hd : decode (mC M) pc = .ok (.iinc i n, 3)) (hl : ls[i]? = some (some (.int x, a))) (hn : i < mL M) (hy : Int32.ofInt n = y) (hs : zst1 (.int (x + y), 0) i ls = ls2) (k : V l M n0 s0 τ cvt (pc + 3) ls2 st h g) : V l M n0 s0 τ cvt pc ls st h g := by
  intro o ho
  obtain ⟨h1, h2⟩ := k o ho
  refine ⟨h1, fun wf tl to p e R s m args below meth c D cA ρ0 ρ H locs L cells slots cx rl lv r1 r2 => ?_⟩
  subst hs
  have lz : lv_has L (mL M) ((i, .int x) :: zpl ρ ls) := ⟨lv.1, lv.2.1, fun q hq => by
    rcases List.mem_cons.mp hq with rfl | hq
    · exact lv.2.2 i _ hl
    · exact (zpl_has lv).2.2 q hq⟩
  exact lv_iinc (k := 0) (v := x + y) cx.1 cx.2.1 hd lz rfl (by rw [hy]) hn rfl (fun L' lv' => h2 wf (zTl_st1 tl zTok_i) to p e R s m args below meth c D cA ρ0 ρ H locs L' cells slots cx rl (zLv_st1 (q := (.int (x + y), 0)) (fun _ h => List.mem_cons_of_mem _ h) lv') r1 r2)
/-- fewer locals -/
def zdr : List Bool → List (Option (Value × Nat)) → List (Option (Value × Nat))
  | true :: b, a :: t => a :: zdr b t
  | false :: b, _ :: t => none :: zdr b t
  | _, _ => []
theorem zdr_at : ∀ (b : List Bool) (ls : List (Option (Value × Nat))) (j : Nat) (x : Value × Nat), (zdr b ls)[j]? = some (some x) → ls[j]? = some (some x)
  | [], ls, j, x, h => by cases ls <;> simp [zdr] at h
  | b :: bs, [], j, x, h => by cases b <;> simp [zdr] at h
  | true :: b, a :: t, 0, x, h => by simpa [zdr] using h
  | true :: b, a :: t, j + 1, x, h => by simp only [zdr, List.getElem?_cons_succ] at h ⊢; exact zdr_at b t j x h
  | false :: b, a :: t, 0, x, h => by simp [zdr] at h
  | false :: b, a :: t, j + 1, x, h => by simp only [zdr, List.getElem?_cons_succ] at h ⊢; exact zdr_at b t j x h
theorem v_drop (b : List Bool) (hs : zdr b ls = ls2) (k : V l M n0 s0 τ cvt pc ls2 st h g) : V l M n0 s0 τ cvt pc ls st h g := by
  intro o ho
  obtain ⟨h1, h2⟩ := k o ho
  refine ⟨h1, fun wf tl to p e R s m args below meth c D cA ρ0 ρ H locs L cells slots cx rl lv r1 r2 => ?_⟩
  subst hs
  refine h2 wf (fun x hx => ?_) to p e R s m args below meth c D cA ρ0 ρ H locs L cells slots cx rl ⟨lv.1, lv.2.1, fun i q hq => lv.2.2 i q (zdr_at b ls i q hq)⟩ r1 r2
  obtain ⟨j, hj⟩ := List.getElem?_of_mem hx
  exact tl x (List.mem_of_getElem? (zdr_at b ls j x hj))
end ZS
