/-! arrays -/
def zin (x : Int32) (n : Nat) : Bool := decide (¬ x < 0) && decide (x.toNatClampNeg < n)
theorem zin_in {x : Int32} {n : Nat} (h : zin x n = true) : vp_in x n := by
  simp only [zin, Bool.and_eq_true, decide_eq_true_eq] at h
  intro q
  rcases q with q | q
  · exact h.1 q
  · omega
def zx (x : Int32) : Nat := x.toNatClampNeg
/-- a guard -/
def zg {α : Type} (b : Bool) (g : Option α) : Option α := if b = true then g else none
/-- a name -/
def zlt {A B : Type} (v : A) (f : A → B) : B := f v
section ZQ
variable {l : Launch} {α : Type} {M : Zm} {n0 s0 τ : Nat} {cvt : α → Option Value × Zh} {pc : Nat} {ls ls2 : List (Option (Value × Nat))} {st : List (Value × Nat)} {h : Zh} {g : Option α}
theorem v_g {b : Bool} (k : b = true → V l M n0 s0 τ cvt pc ls st h g) : V l M n0 s0 τ cvt pc ls st h (zg b g) := by
  unfold zg
  by_cases hb : b = true
  · rw [if_pos hb]; exact k hb
  · rw [if_neg hb]; exact v_none
theorem zSub_20 {t : Nat} (h : zSub t 20) : t = 20 := by
  rcases h with h | h | h
  · exact h
  · omega
  · omega
theorem zSub_21 {t : Nat} (h : zSub t 21) : t = 21 := by
  rcases h with h | h | h
  · exact h
  · omega
  · omega
theorem zSub_q {t q : Nat} (hq : 22 ≤ q) (h : zSub t q) : t = q := by
  rcases h with h | h | h
  · exact h
  · omega
  · omega
theorem v_iald {i a : Nat} {x : Int32} (hd : decode (mC M) pc = .ok (.iaload, 1)) (kk : V l M n0 s0 τ cvt (pc + 1) ls ((.int (zI h i (zx x)), 0) :: st) h g) : V l M n0 s0 τ cvt pc ls ((.int x, a) :: (.ref i, 20) :: st) h (zg (zin x (zL h i)) g) := by
  refine v_g (fun hin => ?_)
  intro o ho
  obtain ⟨h1, h2⟩ := kk o ho
  refine ⟨h1, fun wf tl to p e R s m args below meth c' D cA ρ0 ρ H locs L cells slots cx rl lv r1 r2 => ?_⟩
  obtain ⟨hi, hs⟩ := to.tl.hd i rfl
  exact va_iald cx.1 cx.2.1 cx.2.2.2.2.2.2.2.2.1.1 rl.2.1 i 0 ((zWs_at hi).trans (by rw [zE_i (zSub_20 hs)])) rfl (zin_in hin) hd (h2 wf tl (zTo_cons zTok_i to.tl.tl) p e R s m args below meth c' D cA ρ0 ρ H locs L cells slots cx rl lv r1 r2)
theorem v_lald {i a : Nat} {x : Int32} (hd : decode (mC M) pc = .ok (.laload, 1)) (kk : V l M n0 s0 τ cvt (pc + 1) ls ((.long (zJ h i (zx x)), 0) :: st) h g) : V l M n0 s0 τ cvt pc ls ((.int x, a) :: (.ref i, 21) :: st) h (zg (zin x (zL h i)) g) := by
  refine v_g (fun hin => ?_)
  intro o ho
  obtain ⟨h1, h2⟩ := kk o ho
  refine ⟨h1, fun wf tl to p e R s m args below meth c' D cA ρ0 ρ H locs L cells slots cx rl lv r1 r2 => ?_⟩
  obtain ⟨hi, hs⟩ := to.tl.hd i rfl
  exact va_lald cx.1 cx.2.1 cx.2.2.2.2.2.2.2.2.1.1 rl.2.1 i 1 ((zWs_at hi).trans (by rw [zE_j (zSub_21 hs)])) rfl (zin_in hin) hd (h2 wf tl (zTo_cons zTok_j to.tl.tl) p e R s m args below meth c' D cA ρ0 ρ H locs L cells slots cx rl lv r1 r2)
/-- an array of references: its kind, its place among the types, its name -/
def zQa (q t0 ct : Nat) (C : String) : Prop := 22 ≤ q ∧ (∀ cA : Nat → ClassId, (zTys cA)[t0]? = some (cA q, .object C)) ∧ (∀ k, zTc q k = ct) ∧ C ∈ zOv ∧ ∃ (T : u_T) (N : Nat), zCl[ct]? = some (C, T, N)
theorem zQa_22 : zQa 22 2 0 "MagnetRows$Chain" := ⟨by omega, fun _ => rfl, fun _ => rfl, by decide, _, _, rfl⟩
theorem zQa_23 : zQa 23 3 4 "MagnetRows$Plain" := ⟨by omega, fun _ => rfl, fun _ => rfl, by decide, _, _, rfl⟩
theorem zQa_24 : zQa 24 4 6 "MagnetRows$Sheet" := ⟨by omega, fun _ => rfl, fun _ => rfl, by decide, _, _, rfl⟩
theorem zQa_25 : zQa 25 5 8 "MagnetRows$Sum" := ⟨by omega, fun _ => rfl, fun _ => rfl, by decide, _, _, rfl⟩
theorem v_aald {i a q t0 ct : Nat} {C : String} {x : Int32} (hq : zQa q t0 ct C) (hd : decode (mC M) pc = .ok (.aaload, 1)) (kk : V l M n0 s0 τ cvt (pc + 1) ls ((va_rf (zR h i (zx x)), ct) :: st) h g) : V l M n0 s0 τ cvt pc ls ((.int x, a) :: (.ref i, q) :: st) h (zg (zin x (zL h i)) g) := by
  refine v_g (fun hin => ?_)
  intro o ho
  obtain ⟨h1, h2⟩ := kk o ho
  refine ⟨h1, fun wf tl to p e R s m args below meth c' D cA ρ0 ρ H locs L cells slots cx rl lv r1 r2 => ?_⟩
  obtain ⟨hi, hs⟩ := to.tl.hd i rfl
  have hk : zK h i = q := zSub_q hq.1 hs
  have ht : zTok h (va_rf (zR h i (zx x)), ct) := by
    intro j hj
    cases hr : zR h i (zx x) with
    | none => rw [hr] at hj; cases hj
    | some b =>
      rw [hr] at hj
      cases hj
      obtain ⟨w1, w2⟩ := wf i _ j hr
      have w3 := w2 hi
      rw [hk, hq.2.2.1] at w3
      exact ⟨w1, w3⟩
  have hx := h2 wf tl (zTo_cons ht to.tl.tl) p e R s m args below meth c' D cA ρ0 ρ H locs L cells slots cx rl lv r1 r2
  simp only [List.map_cons, zcv_rf] at hx
  exact va_aldq cx.1 cx.2.1 cx.2.2.2.2.2.2.2.2.1.1 rl.2.1 i t0 ((zWs_at hi).trans (by rw [zE_q hk hq.1])) (hq.2.1 cA) (zin_in hin) hd hx
theorem v_alen {i q : Nat} (hq : q = 20 ∨ q = 21 ∨ (22 ≤ q ∧ q ≤ 25)) (hd : decode (mC M) pc = .ok (.arraylength, 1)) (kk : V l M n0 s0 τ cvt (pc + 1) ls ((.int (Int32.ofNat (zL h i)), 0) :: st) h g) : V l M n0 s0 τ cvt pc ls ((.ref i, q) :: st) h g := by
  intro o ho
  obtain ⟨h1, h2⟩ := kk o ho
  refine ⟨h1, fun wf tl to p e R s m args below meth c' D cA ρ0 ρ H locs L cells slots cx rl lv r1 r2 => ?_⟩
  obtain ⟨hi, hs⟩ := to.hd i rfl
  have hx := h2 wf tl (zTo_cons zTok_i to.tl) p e R s m args below meth c' D cA ρ0 ρ H locs L cells slots cx rl lv r1 r2
  rcases hq with rfl | rfl | ⟨hq1, hq2⟩
  · exact va_alen (x := (zL h i, .inl (zI h i))) cx.1 cx.2.1 cx.2.2.2.2.2.2.2.2.1.1 rl.2.1 i 0 ((zWs_at hi).trans (by rw [zE_i (zSub_20 hs)])) rfl rfl hd hx
  · exact va_alen (x := (zL h i, .inr (.inl (zJ h i)))) cx.1 cx.2.1 cx.2.2.2.2.2.2.2.2.1.1 rl.2.1 i 1 ((zWs_at hi).trans (by rw [zE_j (zSub_21 hs)])) rfl rfl hd hx
  · have hk : zK h i = q := zSub_q hq1 hs
    have hat := (zWs_at (cA := cA) (ρ := ρ) hi).trans (by rw [zE_q hk hq1])
    rcases (show q = 22 ∨ q = 23 ∨ q = 24 ∨ q = 25 by omega) with rfl | rfl | rfl | rfl
    · exact va_alen cx.1 cx.2.1 cx.2.2.2.2.2.2.2.2.1.1 rl.2.1 i 2 hat rfl rfl hd hx
    · exact va_alen cx.1 cx.2.1 cx.2.2.2.2.2.2.2.2.1.1 rl.2.1 i 3 hat rfl rfl hd hx
    · exact va_alen cx.1 cx.2.1 cx.2.2.2.2.2.2.2.2.1.1 rl.2.1 i 4 hat rfl rfl hd hx
    · exact va_alen cx.1 cx.2.1 cx.2.2.2.2.2.2.2.2.1.1 rl.2.1 i 5 hat rfl rfl hd hx
theorem v_iast {i a b : Nat} {x y : Int32} (hd : decode (mC M) pc = .ok (.iastore, 1)) (kk : V l M n0 s0 τ cvt (pc + 1) ls st (zsI h i (zx x) y) g) : V l M n0 s0 τ cvt pc ls ((.int y, b) :: (.int x, a) :: (.ref i, 20) :: st) h (zg (zin x (zL h i)) g) := by
  refine v_g (fun hin => ?_)
  intro o ho
  obtain ⟨h1, h2⟩ := kk o ho
  refine ⟨h1, fun wf tl to p e R s m args below meth c' D cA ρ0 ρ H locs L cells slots cx rl lv r1 r2 => ?_⟩
  obtain ⟨hi, hs⟩ := to.tl.tl.hd i rfl
  have hk := zSub_20 hs
  have hw : zWs cA ρ (zsI h i (zx x) y) = (zWs cA ρ h).set i (ρ i, .inl (cA 20, zL h i, .inl (upd (zI h i) x.toNatClampNeg y))) := by
    refine zWs_set rfl (fun j hj => zE_sI hj) ((zE_i (h := zsI h i (zx x) y) hk).trans ?_)
    have e : zI (zsI h i (zx x) y) i = upd (zI h i) x.toNatClampNeg y := by
      funext j
      simp [zI, zsI, zU, upd, zx]
    rw [e]
    rfl
  refine va_iast cx.1 cx.2.1 cx.2.2.2.2.2.2.2.2.1.1 rl.2.1 rl.2.2.1 rl.2.2.2.1 i 0 ((zWs_at hi).trans (by rw [zE_i hk])) rfl (zin_in hin) hd (fun H1 locs1 q1 q2 q3 => ?_)
  rw [← hw] at q1 q2
  exact h2 wf tl to.tl.tl.tl p e R s m args below meth c' D cA ρ0 ρ H1 locs1 L cells slots cx ⟨rl.1, q1, q2, q3, rl.2.2.2.2⟩ lv r1 r2
theorem v_last {i a b : Nat} {x : Int32} {y : Int64} (hd : decode (mC M) pc = .ok (.lastore, 1)) (kk : V l M n0 s0 τ cvt (pc + 1) ls st (zsJ h i (zx x) y) g) : V l M n0 s0 τ cvt pc ls ((.long y, b) :: (.int x, a) :: (.ref i, 21) :: st) h (zg (zin x (zL h i)) g) := by
  refine v_g (fun hin => ?_)
  intro o ho
  obtain ⟨h1, h2⟩ := kk o ho
  refine ⟨h1, fun wf tl to p e R s m args below meth c' D cA ρ0 ρ H locs L cells slots cx rl lv r1 r2 => ?_⟩
  obtain ⟨hi, hs⟩ := to.tl.tl.hd i rfl
  have hk := zSub_21 hs
  have hw : zWs cA ρ (zsJ h i (zx x) y) = (zWs cA ρ h).set i (ρ i, .inl (cA 21, zL h i, .inr (.inl (vp_updL (zJ h i) x.toNatClampNeg y)))) := by
    refine zWs_set rfl (fun j hj => zE_sJ hj) ((zE_j (h := zsJ h i (zx x) y) hk).trans ?_)
    have e : zJ (zsJ h i (zx x) y) i = vp_updL (zJ h i) x.toNatClampNeg y := by
      funext j
      simp [zJ, zsJ, zU, vp_updL, zx]
    rw [e]
    rfl
  refine va_last cx.1 cx.2.1 cx.2.2.2.2.2.2.2.2.1.1 rl.2.1 rl.2.2.1 rl.2.2.2.1 i 1 ((zWs_at hi).trans (by rw [zE_j hk])) rfl (zin_in hin) hd (fun H1 locs1 q1 q2 q3 => ?_)
  rw [← hw] at q1 q2
  exact h2 wf tl to.tl.tl.tl p e R s m args below meth c' D cA ρ0 ρ H1 locs1 L cells slots cx ⟨rl.1, q1, q2, q3, rl.2.2.2.2⟩ lv r1 r2
end ZQ
