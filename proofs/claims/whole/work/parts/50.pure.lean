/-! the pure part: joins, calls, guards, loops -/
theorem zlt_ {A B : Type} (v : A) (f : A → B) : zlt v f = f v := rfl
theorem zjn_ {B C : Type} (r : B) (f : B → C) : zjn r f = f r := rfl
theorem zg_t {α : Type} {b : Bool} {g : Option α} (h : b = true) : zg b g = g := if_pos h
theorem zbi_s {α : Type} (x : Int32) (f : Int32 → Option α) : zbi (some x) f = f x := rfl
theorem zbj_s {α : Type} (x : Int64) (f : Int64 → Option α) : zbj (some x) f = f x := rfl
theorem zbr_s {α : Type} (x : Option Nat) (f : Option Nat → Option α) : zbr (some x) f = f x := rfl
theorem zbv_s {α : Type} (x : Unit) (f : Unit → Option α) : zbv (some x) f = f x := rfl
theorem zbI_s {α : Type} (x : Int32) (h : Zh) (f : Int32 → Zh → Option α) : zbI (some (x, h)) f = f x h := rfl
theorem zbJ_s {α : Type} (x : Int64) (h : Zh) (f : Int64 → Zh → Option α) : zbJ (some (x, h)) f = f x h := rfl
theorem zbR_s {α : Type} (x : Option Nat) (h : Zh) (f : Option Nat → Zh → Option α) : zbR (some (x, h)) f = f x h := rfl
theorem zbV_s {α : Type} (h : Zh) (f : Zh → Option α) : zbV (some h) f = f h := rfl
theorem zob_s {A B : Type} (a : A) (f : A → Option B) : Option.bind (some a) f = f a := rfl
theorem zcs_n {B : Type} (a : B) (f : Nat → B) : zcs none a f = a := rfl
theorem zcs_s {B : Type} (i : Nat) (a : B) (f : Nat → B) : zcs (some i) a f = f i := rfl
theorem nI_o (n : Nat) : (OfNat.ofNat n : Int32) = nI n := rfl
theorem zin_nI {j n : Nat} (hj : j < n) (hb : j < 2 ^ 31) : zin (nI j) n = true := by
  have h1 : ¬ nI j < 0 := nI_pos hb
  simp [zin, h1, nI_clamp hb, hj]
theorem zx_nI {j : Nat} (hj : j < 2 ^ 31) : zx (nI j) = j := nI_clamp hj
theorem zbl_0 : zbl 0 = true := by decide
theorem zbl_1 : zbl 1 = true := by decide
/-- a loop whose state after i rounds is known: m rounds, then its end -/
theorem zlp_it {B R : Type} {z : B} {F : B → B} (ev : Nat → B → R) (X : R) (m : Nat) (hs : ∀ i, i < m → ∀ r, ev i (F r) = ev (i + 1) r) (hx : ∀ r, ev m (F r) = X) (n : Nat) (hn : m < n) : ev 0 (zlp z F n) = X := by
  have key : ∀ (d i n : Nat), i + d = m → d < n → ev i (zlp z F n) = X := by
    intro d
    induction d with
    | zero =>
      intro i n hi hn
      cases n with
      | zero => omega
      | succ n =>
        have : i = m := by omega
        subst this
        exact hx _
    | succ d ih =>
      intro i n hi hn
      cases n with
      | zero => omega
      | succ n =>
        show ev i (F (zlp z F n)) = X
        rw [hs i (by omega)]
        exact ih (i + 1) n (by omega) (by omega)
  exact key m 0 n (by omega) hn
/-- a loop by an invariant and a measure: it comes to an end with what holds there -/
theorem zlp_inv {B R σ : Type} {z : B} {F : B → B} (ev : σ → B → R) (P : σ → Prop) (X : R) (μ : σ → Nat) (hs : ∀ s, P s → (∀ r, ev s (F r) = X) ∨ (∃ s', P s' ∧ μ s' < μ s ∧ ∀ r, ev s (F r) = ev s' r)) (s : σ) (hP : P s) (n : Nat) (hn : μ s < n) : ev s (zlp z F n) = X := by
  induction n generalizing s with
  | zero => omega
  | succ n ih =>
    show ev s (F (zlp z F n)) = X
    rcases hs s hP with h | ⟨s', h1, h2, h3⟩
    · exact h _
    · rw [h3]
      exact ih s' h1 (by omega)
theorem zI_s (h : Zh) (i k a b : Nat) (v : Int32) : zI (zsI h i k v) a b = if a = i ∧ b = k then v else zI h a b := rfl
theorem zJ_s (h : Zh) (i k a b : Nat) (v : Int64) : zJ (zsJ h i k v) a b = if a = i ∧ b = k then v else zJ h a b := rfl
theorem zR_s (h : Zh) (i k a b : Nat) (v : Option Nat) : zR (zsR h i k v) a b = if a = i ∧ b = k then v else zR h a b := rfl
theorem zI_sJ (h : Zh) (i k a b : Nat) (v : Int64) : zI (zsJ h i k v) a b = zI h a b := rfl
theorem zI_sR (h : Zh) (i k a b : Nat) (v : Option Nat) : zI (zsR h i k v) a b = zI h a b := rfl
theorem zJ_sI (h : Zh) (i k a b : Nat) (v : Int32) : zJ (zsI h i k v) a b = zJ h a b := rfl
theorem zJ_sR (h : Zh) (i k a b : Nat) (v : Option Nat) : zJ (zsR h i k v) a b = zJ h a b := rfl
theorem zR_sI (h : Zh) (i k a b : Nat) (v : Int32) : zR (zsI h i k v) a b = zR h a b := rfl
theorem zR_sJ (h : Zh) (i k a b : Nat) (v : Int64) : zR (zsJ h i k v) a b = zR h a b := rfl
theorem zL_sI (h : Zh) (i k a : Nat) (v : Int32) : zL (zsI h i k v) a = zL h a := rfl
theorem zL_sJ (h : Zh) (i k a : Nat) (v : Int64) : zL (zsJ h i k v) a = zL h a := rfl
theorem zL_sR (h : Zh) (i k a : Nat) (v : Option Nat) : zL (zsR h i k v) a = zL h a := rfl
theorem zK_sI (h : Zh) (i k a : Nat) (v : Int32) : zK (zsI h i k v) a = zK h a := rfl
theorem zK_sJ (h : Zh) (i k a : Nat) (v : Int64) : zK (zsJ h i k v) a = zK h a := rfl
theorem zK_sR (h : Zh) (i k a : Nat) (v : Option Nat) : zK (zsR h i k v) a = zK h a := rfl
theorem zN_sI (h : Zh) (i k : Nat) (v : Int32) : zN (zsI h i k v) = zN h := rfl
theorem zN_sJ (h : Zh) (i k : Nat) (v : Int64) : zN (zsJ h i k v) = zN h := rfl
theorem zN_sR (h : Zh) (i k : Nat) (v : Option Nat) : zN (zsR h i k v) = zN h := rfl
theorem zS_sI (h : Zh) (i k : Nat) (v : Int32) : zS (zsI h i k v) = zS h := rfl
theorem zS_sJ (h : Zh) (i k : Nat) (v : Int64) : zS (zsJ h i k v) = zS h := rfl
theorem zS_sR (h : Zh) (i k : Nat) (v : Option Nat) : zS (zsR h i k v) = zS h := rfl
/-! small finite facts -/
def popN (s : Nat) : Nat := (List.range 8).foldl (fun a k => a + s / 2 ^ k % 2) 0
theorem count_ok : ∀ s, s < 256 → gX12_count (nI s) = some (nI (popN s)) := by
  have h : (List.range 256).all (fun s => decide (gX12_count (nI s) = some (nI (popN s)))) = true := by decide +kernel
  intro s hs
  exact of_decide_eq_true (List.all_eq_true.mp h s (List.mem_range.mpr hs))
theorem in_ok (v a b : Int64) : gX12_in v a b = some (if a ≤ v ∧ v ≤ b then 1 else 0) := by
  unfold gX12_in gX12_in_J1
  simp only [zjn_]
  by_cases h1 : v < a
  · rw [if_pos ((lg_cmp_lt v a).mpr h1), if_neg]
    intro h
    exact absurd h1 (Int64.not_lt.mpr h.1)
  · rw [if_neg (fun h => h1 ((lg_cmp_lt v a).mp h))]
    by_cases h2 : b < v
    · rw [if_pos ((lg_cmp_gt v b).mpr h2), if_neg]
      intro h
      exact absurd h2 (Int64.not_lt.mpr h.2)
    · rw [if_neg (fun h => h2 ((lg_cmp_gt v b).mp h)), if_pos ⟨Int64.not_lt.mp h1, Int64.not_lt.mp h2⟩]
theorem in_ii (x : Int32) (a b : Int64) : gX12_in x.toInt64 a b = some (if a.toInt ≤ x.toInt ∧ x.toInt ≤ b.toInt then 1 else 0) := by
  rw [in_ok]
  simp only [Int64.le_iff_toInt_le, Int32.toInt_toInt64]
