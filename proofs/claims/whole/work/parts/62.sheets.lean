/-! calls on sheets -/
def stP (h h' : Zh) : Prop := zN h' ≤ zN h + 40 ∧ zS h' ≤ zS h + 9300
def stG {α : Type} (SC : Ch → (Nat → Nat → Int32) → (Nat → Nat → Int64) → Prop) (g1 g2 : Option (α × Zh)) (h : Zh) : Prop := ∃ (r : α) (h' : Zh) (I' : Nat → Nat → Int32) (J' : Nat → Nat → Int64) (o' : Nat → Nat) (L' : Led) (n' : Nat) (w' : Nat → Wt) (S' : Nat → Option Sh) (fa' tr' : Int32), g1 = some (r, h') ∧ g2 = some (r, mH I' J') ∧ stX SC h' o' L' n' w' S' fa' tr' ∧ stM I' L' n' w' S' fa' tr' ∧ stOk L' n' w' S' ∧ stP h h'
abbrev inR (x : Int32) (n : Nat) : Prop := 0 ≤ x.toInt ∧ x.toInt < n
theorem inR_f {x : Int32} {n : Nat} (h : inR x n) : ∃ k, k < n ∧ x = nI k := by
  have h1 := h.1
  have h2 := h.2
  refine ⟨x.toInt.toNat, by omega, ?_⟩
  apply Int32.toInt_inj.mp
  have h3 : x.toInt < 2 ^ 31 := Int32.toInt_lt x
  show _ = (Int32.ofNat x.toInt.toNat).toInt
  rw [Int32.toInt_ofNat_of_lt (by omega)]
  omega
theorem nI_int {k : Nat} (hk : k < 2 ^ 31) : (nI k).toInt = k := Int32.toInt_ofNat_of_lt hk
theorem i_lt0 (x : Int32) : x < 0 ↔ x.toInt < 0 := Int32.lt_iff_toInt_lt
theorem rng_if {α : Type} (x m : Int32) (n : Nat) (hm : m.toInt = n) (a b : α) : (if x < 0 then b else if x < m then a else b) = if inR x n then a else b := by
  have e1 := i_lt0 x
  have e2 : x < m ↔ x.toInt < n := by rw [Int32.lt_iff_toInt_lt, hm]
  by_cases h1 : x < 0
  · have g1 := e1.mp h1
    rw [if_pos h1, if_neg (by omega)]
  · have g1 := (not_congr e1).mp h1
    rw [if_neg h1]
    by_cases h2 : x < m
    · have g2 := e2.mp h2
      rw [if_pos h2, if_pos (by omega)]
    · have g2 := (not_congr e2).mp h2
      rw [if_neg h2, if_neg (by omega)]
theorem in_R (x : Int32) (b : Int64) (n : Nat) (hb : b.toInt + 1 = n) : gX12_in x.toInt64 0 b = some (if inR x n then 1 else 0) := by
  rw [in_ii, show (0 : Int64).toInt = 0 from rfl]
  congr 1
  by_cases h : inR x n
  · rw [if_pos h, if_pos (by omega)]
  · rw [if_neg h, if_neg (by omega)]
theorem noSheetX (x : Int32) : gX11_noSheet x = some (if inR x 4 then 0 else 1) := by
  unfold gX11_noSheet gX11_noSheet_J1
  rw [zjn_, rng_if x 4 4 rfl]
  split <;> rfl
theorem noSumX (x : Int32) : gX11_noSum x = some (if inR x 4 then 0 else 1) := by
  unfold gX11_noSum gX11_noSum_J1
  rw [zjn_, rng_if x 4 4 rfl]
  split <;> rfl
theorem noLaneX (x : Int32) : gX11_noLane x = some (if inR x 3 then 0 else 1) := by
  unfold gX11_noLane gX11_noLane_J1
  rw [zjn_, rng_if x 3 3 rfl]
  split <;> rfl
theorem noKindX (x : Int32) : gX11_noKind x = some (if inR x 3 then 0 else 1) := by
  unfold gX11_noKind gX11_noKind_J1
  rw [zjn_, rng_if x 3 3 rfl]
  split <;> rfl
theorem noSheetM (x : Int32) : gX12_noSheet x = some (if inR x 4 then 0 else 1) := by
  unfold gX12_noSheet
  rw [in_R x 3 4 rfl, zbi_s]
  by_cases h : inR x 4
  · rw [if_pos h, if_neg (by decide), if_pos h]
  · rw [if_neg h, if_pos rfl, if_neg h]
theorem noSumM (x : Int32) : gX12_noSum x = some (if inR x 4 then 0 else 1) := by
  unfold gX12_noSum
  rw [in_R x 3 4 rfl, zbi_s]
  by_cases h : inR x 4
  · rw [if_pos h, if_neg (by decide), if_pos h]
  · rw [if_neg h, if_pos rfl, if_neg h]
theorem refusedM (I : Nat → Nat → Int32) (J : Nat → Nat → Int64) (x : Int32) : gX12_refused (mH I J) 0 x = some (x, mH (zU I 0 0 0) J) := rfl
theorem failedM (I : Nat → Nat → Int32) (J : Nat → Nat → Int64) (x : Int32) : gX12_failed (mH I J) 0 x = some (-10 - x, mH (zU I 0 0 x) J) := rfl
theorem faultedX (h : Zh) (x : Int32) : gX11_faulted h 0 x = some (-10 - x, zsI h 0 5 x) := rfl
/-- some cells of a row from a place on -/
abbrev bey (x y : Int32) (n : Nat) : Prop := 0 ≤ x.toInt ∧ 0 ≤ y.toInt ∧ x.toInt + y.toInt ≤ n
theorem has_ok {h : Zh} {a x n : Nat} (hr : zR h a 1 = some x) (hl : zL h x = n) (hn : n ≤ 60) (i c : Int32) : gX6_has h a i c = some (if bey i c n then 1 else 0) := by
  unfold gX6_has gX6_has_J1
  rw [zjn_]
  have e1 := i_lt0 i
  have e2 := i_lt0 c
  by_cases h1 : i < 0
  · have g1 := e1.mp h1
    rw [if_pos h1, if_neg (by omega)]
  · have g1 := (not_congr e1).mp h1
    rw [if_neg h1]
    by_cases h2 : c < 0
    · have g2 := e2.mp h2
      rw [if_pos h2, if_neg (by omega)]
    · have g2 := (not_congr e2).mp h2
      rw [if_neg h2, zlt_, hr, zob_s, hl]
      have h3 : c.toInt < 2 ^ 31 := Int32.toInt_lt c
      have e3 : Int32.ofNat n - c < i ↔ (n : Int) - c.toInt < i.toInt := by rw [Int32.lt_iff_toInt_lt, Int32.toInt_sub, show (Int32.ofNat n).toInt = n from nI_int (by omega), Int.bmod_eq_of_le (by omega) (by omega)]
      by_cases h4 : Int32.ofNat n - c < i
      · have g4 := e3.mp h4
        rw [if_pos h4, if_neg (by omega)]
      · have g4 := (not_congr e3).mp h4
        rw [if_neg h4, if_pos (by omega)]
theorem isBeyond_ok (i c : Int32) (n : Nat) (hn : n ≤ 60) : gX12_isBeyond i c.toInt64 (nI n) = some (if bey i c n then 0 else 1) := by
  unfold gX12_isBeyond gX12_isBeyond_J1
  rw [zjn_]
  have e1 := i_lt0 i
  by_cases h1 : i < 0
  · have g1 := e1.mp h1
    rw [if_pos h1, if_neg (by omega)]
  · have g1 := (not_congr e1).mp h1
    rw [if_neg h1]
    by_cases h2 : c.toInt < 0
    · rw [if_pos ((lg_cmp_lt _ _).mpr (by rw [Int64.lt_iff_toInt_lt, Int32.toInt_toInt64]; exact h2)), if_neg (by omega)]
    · rw [if_neg (fun hh => h2 (by have := (lg_cmp_lt _ _).mp hh; rw [Int64.lt_iff_toInt_lt, Int32.toInt_toInt64] at this; exact this))]
      have h3 : c.toInt < 2 ^ 31 := Int32.toInt_lt c
      have h4 : i.toInt < 2 ^ 31 := Int32.toInt_lt i
      have e : (nI n).toInt64 < i.toInt64 + c.toInt64 ↔ (n : Int) < i.toInt + c.toInt := by
        rw [Int64.lt_iff_toInt_lt, Int64.toInt_add, Int32.toInt_toInt64, Int32.toInt_toInt64, Int32.toInt_toInt64, nI_int (by omega), Int.bmod_eq_of_le (by omega) (by omega)]
      by_cases h5 : (n : Int) < i.toInt + c.toInt
      · rw [if_neg (fun hh => absurd ((lg_cmp_gt _ _).mpr (e.mpr h5)) (Int32.not_lt.mpr hh)), if_neg (by omega)]
      · rw [if_pos (Int32.not_lt.mp (fun hh => h5 (e.mp ((lg_cmp_gt _ _).mp hh)))), if_pos (by omega)]
section Ops
variable {SC : Ch → (Nat → Nat → Int32) → (Nat → Nat → Int64) → Prop} {h : Zh} {o : Nat → Nat} {L : Led} {n : Nat} {w : Nat → Wt} {S : Nat → Option Sh} {fa tr : Int32} {I : Nat → Nat → Int32} {J : Nat → Nat → Int64}
theorem stP_r (h : Zh) : stP h h := ⟨by omega, by omega⟩
theorem stG_0 {α : Type} (p : stX SC h o L n w S fa tr) (q : stM I L n w S fa tr) (k : stOk L n w S) (r : α) : stG SC (some (r, h)) (some (r, mH I J)) h := ⟨r, h, I, J, o, L, n, w, S, fa, tr, rfl, rfl, p, q, k, stP_r h⟩
theorem stG_f {α : Type} (p : stX SC h o L n w S fa tr) (q : stM I L n w S fa tr) (k : stOk L n w S) (r : α) (v : Int32) : stG SC (some (r, zsI h 0 5 v)) (some (r, mH (zU I 0 0 v) J)) h := ⟨r, _, _, J, o, L, n, w, S, v, tr, rfl, rfl, stX_f v p, stM_f k.1 v q, k, stP_r h⟩
theorem stG_ff {α : Type} (p : stX SC h o L n w S fa tr) (q : stM I L n w S fa tr) (k : stOk L n w S) (r : α) (v : Int32) : stG SC (some (r, zsI (zsI h 0 5 0) 0 5 v)) (some (r, mH (zU I 0 0 v) J)) h := ⟨r, _, _, J, o, L, n, w, S, v, tr, rfl, rfl, stX_f v (stX_f 0 p), stM_f k.1 v q, k, stP_r h⟩
theorem noCell_n {k : Nat} (hk : k < 4) (hs : I 30 k = -1) (x : Int32) : gX12_noCell (mH I J) 0 (nI k) x = some 1 := by
  unfold gX12_noCell
  repeat (first | rw [mR_38] | rw [min_ (mL_30 _ _) hk (by omega)] | rw [zx_nI (show k < 2 ^ 31 by omega)] | rw [mI_] | rw [hs] | rw [zlt_] | rw [zjn_] | rw [zob_s] | rw [zg_1] | rw [zbi_s] | rw [zbI_s] | rw [zbr_s] | rw [zbR_s] | rw [zbV_s] | rw [zbj_s] | rw [zbJ_s] | rw [zcs_s] | rw [zcs_n])
  rw [if_neg (by decide)]
theorem noCell_s {k m : Nat} (hk : k < 4) (hm : m ≤ 60) (hs : I 30 k = nI m) (x : Int32) : gX12_noCell (mH I J) 0 (nI k) x = some (if inR x m then 0 else 3) := by
  have hin : gX12_in x.toInt64 0 ((nI m).toInt64 - 1) = some (if inR x m then 1 else 0) := by
    apply in_R
    rw [Int64.toInt_sub, Int32.toInt_toInt64, nI_int (by omega), show (1 : Int64).toInt = 1 from rfl, Int.bmod_eq_of_le (by omega) (by omega)]
    omega
  have h0 : (0 : Int32) ≤ nI m := by
    rw [Int32.le_iff_toInt_le, nI_int (by omega)]
    exact Int.natCast_nonneg m
  unfold gX12_noCell
  repeat (first | rw [mR_38] | rw [min_ (mL_30 _ _) hk (by omega)] | rw [zx_nI (show k < 2 ^ 31 by omega)] | rw [mI_] | rw [hs] | rw [if_pos h0] | rw [hin] | rw [zlt_] | rw [zjn_] | rw [zob_s] | rw [zg_1] | rw [zbi_s] | rw [zbI_s] | rw [zbr_s] | rw [zbR_s] | rw [zbV_s] | rw [zbj_s] | rw [zbJ_s] | rw [zcs_s] | rw [zcs_n])
  by_cases h : inR x m
  · rw [if_pos h, if_neg (by decide), if_pos h]
  · rw [if_neg h, if_pos rfl, if_neg h]
theorem bey_1 (x : Int32) (m : Nat) : bey x 1 m ↔ inR x m := by
  show 0 ≤ x.toInt ∧ 0 ≤ (1 : Int32).toInt ∧ x.toInt + (1 : Int32).toInt ≤ m ↔ _
  rw [show (1 : Int32).toInt = 1 from rfl]
  omega
def lcut (l : Nat) (v : Int32) : Int32 := if l = 0 then v.toInt8.toInt32 else if l = 1 then v.toInt16.toInt32 else v
theorem cut_ok {a l : Nat} (hl : l ≤ 2) (h0 : zI h a 0 = nI l) (v : Int32) : gX6_cut h a v = some (lcut l v) := by
  unfold gX6_cut lcut
  rw [h0]
  rcases (show l = 0 ∨ l = 1 ∨ l = 2 by omega) with rfl | rfl | rfl <;> rfl
def shU (S : Nat → Option Sh) (k : Nat) (s : Option Sh) : Nat → Option Sh := fun j => if j = k then s else S j
/-- one row of a sheet has changed in the class -/
theorem stX_row {h' : Zh} {k : Nat} {s s' : Sh} (hk : k < 4) (hs : S k = some s) (h1 : s'.1 = s.1) (h2 : s'.2.1 = s.2.1) {a x : Nat} (ha : zR h 10 k = some a) (hx : zR h a 1 = some x) (m : zMv (fun t => t = 10 + k) h o h' o) (hl : zL h' x = zL h x) (hv : ∀ i, i < s.2.1 → zI h' x i = s'.2.2 i) (p : stX SC h o L n w S fa tr) : stX SC h' o L n w (shU S k (some s')) fa tr := by
  obtain ⟨p1, p2, p3, p4, ⟨p5, p6⟩, p7, p8, p9⟩ := p
  obtain ⟨e0, e1, e3, e4, e9, e10, e11⟩ := p1.at m
  have f0 := e0 (by omega)
  have f10 := e10 (by omega)
  refine ⟨p1.mv m (by omega) (by omega) (by omega) (by omega) (by omega) (by omega), p2.mv m p1 (by omega) (by omega) (by omega) (by omega), p3.mv m p1 (by omega) (by omega) (f0.2.2.1 4), fun j hj => ?_, ⟨(f0.2.2.1 5).trans p5, ((e11 (by omega)).2.2.1 0).trans p6⟩, p7.mv m (by omega) (f0.2.2.2.2 8), p8.mv m (by omega) (f0.2.2.2.2 7), p9.mv m (by omega) (by omega) (f0.2.2.2.2 6)⟩
  unfold shU
  by_cases hjk : j = k
  · subst hjk
    rw [if_pos rfl]
    refine ⟨fun hn => (by cases hn), fun t ht => ?_⟩
    obtain rfl := Option.some.inj ht
    obtain ⟨a', x', b1, b2, b3, b4, ⟨b5, b6⟩, b7, b8⟩ := (p4 j hj).2 s hs
    obtain rfl : a = a' := Option.some.inj (ha.symm.trans b1)
    obtain rfl : x = x' := Option.some.inj (hx.symm.trans b4)
    have ea := b2.at m (by omega)
    exact ⟨a, x, (f10.2.2.2.2 j).trans b1, b2.mv m, (ea.2.2.1 0).trans (b3.trans (by rw [h1])), (ea.2.2.2.2 1).trans b4, ⟨Nat.lt_of_lt_of_le b5 m.1, (m.2.1 _ b5).trans b6⟩, hl.trans (b7.trans h2.symm), fun i hi => hv i (by omega)⟩
  · rw [if_neg hjk]
    exact ⟨fun hn => (f10.2.2.2.2 j).trans ((p4 j hj).1 hn), fun t ht => ((p4 j hj).2 t ht).mv m (by omega) (by omega) (f10.2.2.2.2 j)⟩
/-- one sheet has changed in the reference -/
theorem stM_row {I' : Nat → Nat → Int32} {k : Nat} {s' : Option Sh} (hL : ledOk L) (hS : shOk S) (h1 : ∀ a b, ¬ (a = 30 ∧ b = k) → ¬ (a = 31 ∧ b = k) → ¬ (a = 32 ∧ 60 * k ≤ b ∧ b < 60 * k + 60) → ¬ a = 33 → I' a b = I a b) (hn : s' = none → I' 30 k = -1) (hs : ∀ t, s' = some t → I' 30 k = nI t.2.1 ∧ I' 31 k = nI t.1 ∧ ∀ i, i < t.2.1 → I' 32 (60 * k + i) = t.2.2 i) (q : stM I L n w S fa tr) : stM I' L n w (shU S k s') fa tr := by
  obtain ⟨q1, q2, q3, q4, q5⟩ := q
  refine ⟨q1.mv hL (fun b hb => h1 _ _ (by omega) (by omega) (by omega) (by omega)) (fun a b _ _ => h1 _ _ (by omega) (by omega) (by omega) (by omega)) (fun b => h1 _ _ (by omega) (by omega) (by omega) (by omega)), q2.mv (h1 _ _ (by omega) (by omega) (by omega) (by omega)) (fun a b _ _ => h1 _ _ (by omega) (by omega) (by omega) (by omega)), fun j hj => ?_, (h1 _ _ (by omega) (by omega) (by omega) (by omega)).trans q4, (h1 _ _ (by omega) (by omega) (by omega) (by omega)).trans q5⟩
  unfold shU
  by_cases hjk : j = k
  · subst hjk
    rw [if_pos rfl]
    exact ⟨hn, hs⟩
  · rw [if_neg hjk]
    refine ⟨fun hn => (h1 _ _ (by omega) (by omega) (by omega) (by omega)).trans ((q3 j hj).1 hn), fun t ht => ?_⟩
    obtain ⟨c1, c2, c3⟩ := (q3 j hj).2 t ht
    have hb := (hS j t ht).2
    exact ⟨(h1 _ _ (by omega) (by omega) (by omega) (by omega)).trans c1, (h1 _ _ (by omega) (by omega) (by omega) (by omega)).trans c2, fun i hi => (h1 _ _ (by omega) (by omega) (by omega) (by omega)).trans (c3 i hi)⟩
theorem shOk_U {k : Nat} {s : Option Sh} (hS : shOk S) (hs : ∀ t, s = some t → t.1 ≤ 2 ∧ t.2.1 ≤ 60) : shOk (shU S k s) := by
  intro j t ht
  unfold shU at ht
  by_cases hjk : j = k
  · rw [if_pos hjk] at ht; exact hs t ht
  · rw [if_neg hjk] at ht; exact hS j t ht
theorem put_st (p : stX SC h o L n w S fa tr) (q : stM I L n w S fa tr) (k : stOk L n w S) (x1 x2 x3 : Int32) : stG SC (gX11_put h 0 x1 x2 x3) (gX12_put (mH I J) 0 x1 x2 x3) h := by
  unfold gX11_put gX12_put
  rw [zlt_, noSheetX, zbi_s, noSheetM, zbi_s]
  by_cases h1 : inR x1 4
  · rw [if_pos h1, if_pos rfl, if_pos rfl]
    obtain ⟨c, hc, rfl⟩ := inR_f h1
    obtain ⟨⟨f0, f1, f2, f3⟩, -, ⟨l9, l10, -⟩, -⟩ := p.1
    have i1 : zin (nI c) (zL h 10) = true := by rw [l10]; exact zin_nI hc (by omega)
    have xc : zx (nI c) = c := zx_nI (by omega)
    cases hS : S c with
    | none =>
      have r1 := (p.2.2.2.1 c hc).1 hS
      repeat (first | rw [zR_sI] | rw [zL_sI] | rw [f2] | rw [i1] | rw [xc] | rw [r1] | rw [noCell_n hc ((q.2.2.1 c hc).1 hS)] | rw [zlt_] | rw [zjn_] | rw [zob_s] | rw [zg_1] | rw [zbi_s] | rw [zbI_s] | rw [zbr_s] | rw [zbR_s] | rw [zbV_s] | rw [zbj_s] | rw [zbJ_s] | rw [zcs_s] | rw [zcs_n])
      rw [if_neg (show ¬ (1 : Int32) ≤ 0 by decide), failedM, faultedX]
      exact stG_ff p q k _ 1
    | some s =>
      obtain ⟨a, x, b1, b2, b3, b4, ⟨b5, b6⟩, b7, b8⟩ := (p.2.2.2.1 c hc).2 s hS
      obtain ⟨d1, d2, d3⟩ := (q.2.2.1 c hc).2 s hS
      obtain ⟨s1, s2⟩ := k.2.2 c s hS
      have hh : gX6_has (zsI h 0 5 0) a x2 1 = some (if bey x2 1 s.2.1 then 1 else 0) := has_ok (by rw [zR_sI]; exact b4) (by rw [zL_sI]; exact b7) s2 x2 1
      repeat (first | rw [zR_sI] | rw [zL_sI] | rw [f2] | rw [i1] | rw [xc] | rw [b1] | rw [hh] | rw [noCell_s hc s2 d1] | rw [zlt_] | rw [zjn_] | rw [zob_s] | rw [zg_1] | rw [zbi_s] | rw [zbI_s] | rw [zbr_s] | rw [zbR_s] | rw [zbV_s] | rw [zbj_s] | rw [zbJ_s] | rw [zcs_s] | rw [zcs_n])
      by_cases h2 : inR x2 s.2.1
      · rw [if_pos h2, if_pos (Int32.le_refl _), if_pos ((bey_1 _ _).mpr h2), if_neg (show ¬ (1 : Int32) = 0 by decide)]
        obtain ⟨i, hi, rfl⟩ := inR_f h2
        have o0 : o 0 = 100 := p.1.2.2.2.2.1
        have oa : a ≠ 0 := fun e => by have := b2.2; rw [e, o0] at this; omega
        have ox : x ≠ 0 := fun e => by rw [e, o0] at b6; omega
        have a0 : zI (zsI h 0 5 0) a 0 = nI s.1 := by rw [zI_s, if_neg (by omega)]; exact b3
        have i2 : zin (nI i) (zL h x) = true := by rw [b7]; exact zin_nI hi (by omega)
        have xi : zx (nI i) = i := zx_nI (by omega)
        have e60 : 60 * nI c + nI i = nI (60 * c + i) := by rw [nI_o 60, pk_mul, nI_add]
        have x60 : zx (nI (60 * c + i)) = 60 * c + i := zx_nI (by omega)
        have hj : ∀ (K : Int32 → Option (Int32 × Zh)), (if nI s.1 = 0 then K x3.toInt8.toInt32 else if nI s.1 = 1 then K x3.toInt16.toInt32 else K x3) = K (lcut s.1 x3) := by
          intro K
          unfold lcut
          rcases (show s.1 = 0 ∨ s.1 = 1 ∨ s.1 = 2 by omega) with e | e | e <;> rw [e] <;> rfl
        repeat (first | rw [zR_sI] | rw [zL_sI] | rw [b4] | rw [cut_ok s1 a0 x3] | rw [i2] | rw [xi] | rw [mR_39] | rw [mR_40] | rw [min_ (mL_31 _ _) hc (by omega)] | rw [xc] | rw [mI_] | rw [d2] | rw [zlt_] | rw [zjn_] | rw [zob_s] | rw [zg_1] | rw [zbi_s] | rw [zbI_s] | rw [zbr_s] | rw [zbR_s] | rw [zbV_s] | rw [zbj_s] | rw [zbJ_s] | rw [zcs_s] | rw [zcs_n])
        rw [hj]
        unfold gX12_put_J1
        repeat (first | rw [e60] | rw [min_ (mL_32 _ _) (show 60 * c + i < 240 by omega) (by omega)] | rw [x60] | rw [msI] | rw [refusedM] | rw [zlt_] | rw [zjn_] | rw [zob_s] | rw [zg_1] | rw [zbi_s] | rw [zbI_s] | rw [zbr_s] | rw [zbR_s] | rw [zbV_s] | rw [zbj_s] | rw [zbJ_s] | rw [zcs_s] | rw [zcs_n])
        have px := stX_row (s' := (s.1, s.2.1, fun j => if j = i then lcut s.1 x3 else s.2.2 j)) hc hS rfl rfl (h := zsI h 0 5 0) (h' := zsI (zsI h 0 5 0) x i (lcut s.1 x3)) (a := a) (x := x) b1 b4 (zMv.sI (T := fun t => t = 10 + c) (o := o) b6) rfl (fun j hj => by
          rw [zI_s]
          by_cases e : j = i
          · rw [if_pos ⟨rfl, e⟩]; exact (if_pos e).symm
          · rw [if_neg (fun hh => e hh.2), zI_s, if_neg (fun hh => ox hh.1)]
            exact (b8 j hj).trans (if_neg e).symm) (stX_f 0 p)
        have qx : stM (zU (zU I 32 (60 * c + i) (lcut s.1 x3)) 0 0 0) L n w (shU S c (some (s.1, s.2.1, fun j => if j = i then lcut s.1 x3 else s.2.2 j))) 0 tr := by
          refine stM_f k.1 0 (stM_row k.1 k.2.2 (fun a b n1 n2 n3 n4 => zU_n _ _ _ _ _ _ (by omega)) (fun hn => (by cases hn)) (fun t ht => ?_) q)
          obtain rfl := Option.some.inj ht
          refine ⟨(zU_n _ _ _ _ _ _ (by omega)).trans d1, (zU_n _ _ _ _ _ _ (by omega)).trans d2, fun j hj => ?_⟩
          by_cases e : j = i
          · subst e
            exact (zU_e _ _ _ _).trans (if_pos rfl).symm
          · exact (zU_n _ _ _ _ _ _ (by omega)).trans ((d3 j hj).trans (if_neg e).symm)
        exact ⟨_, _, _, J, o, L, n, w, _, 0, tr, rfl, rfl, px, qx, ⟨k.1, k.2.1, shOk_U k.2.2 (fun t ht => by obtain rfl := Option.some.inj ht; exact ⟨s1, s2⟩)⟩, stP_r h⟩
      · rw [if_neg h2, if_neg (show ¬ (3 : Int32) ≤ 0 by decide), if_neg (fun hb => h2 ((bey_1 _ _).mp hb)), if_pos rfl, failedM, faultedX]
        exact stG_ff p q k _ 3
  · rw [if_neg h1, if_neg (by decide), if_neg (by decide), refusedM]
    exact stG_f p q k _ 0
end Ops
