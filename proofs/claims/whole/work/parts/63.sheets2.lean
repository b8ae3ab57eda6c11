/-! sheets: cell, lose, sheet, copy -/
theorem zI_se (h : Zh) (a k : Nat) (v : Int32) : zI (zsI h a k v) a k = v := if_pos ⟨rfl, rfl⟩
theorem zJ_se (h : Zh) (a k : Nat) (v : Int64) : zJ (zsJ h a k v) a k = v := if_pos ⟨rfl, rfl⟩
theorem zR_se (h : Zh) (a k : Nat) (v : Option Nat) : zR (zsR h a k v) a k = v := if_pos ⟨rfl, rfl⟩
section Ops
variable {SC : Ch → (Nat → Nat → Int32) → (Nat → Nat → Int64) → Prop} {h : Zh} {o : Nat → Nat} {L : Led} {n : Nat} {w : Nat → Wt} {S : Nat → Option Sh} {fa tr : Int32} {I : Nat → Nat → Int32} {J : Nat → Nat → Int64}
theorem faultOf_s {a x l m : Nat} (hr : zR h a 1 = some x) (hl : zL h x = m) (hm : m ≤ 60) (h0 : zI h a 0 = nI l) (y i c : Int32) : gX11_faultOf h (some a) y i c = some (if nI l = y then (if bey i c m then 0 else 3) else 2) := by
  unfold gX11_faultOf
  rw [zcs_s, h0]
  by_cases e : nI l = y
  · rw [if_pos e, if_pos e, has_ok hr hl hm, zbi_s]
    by_cases hb : bey i c m
    · rw [if_pos hb, if_neg (by decide), if_pos hb]
    · rw [if_neg hb, if_pos rfl, if_neg hb]
  · rw [if_neg e, if_neg e]
theorem cell_st (p : stX SC h o L n w S fa tr) (q : stM I L n w S fa tr) (k : stOk L n w S) (x1 x2 x3 : Int32) : stG SC (gX11_cell h 0 x1 x2 x3) (gX12_cell (mH I J) 0 x1 x2 x3) h := by
  unfold gX11_cell gX12_cell
  repeat (first | rw [noSheetX] | rw [noSheetM] | rw [msI] | rw [zlt_] | rw [zjn_] | rw [zob_s] | rw [zg_1] | rw [zbi_s] | rw [zbI_s] | rw [zbr_s] | rw [zbR_s] | rw [zbV_s] | rw [zbj_s] | rw [zbJ_s] | rw [zcs_s] | rw [zcs_n])
  have hlost : ∀ (g : Zh), gX12_cell_J1 g = some (-9223372036854775808, g) := fun g => rfl
  rw [hlost]
  by_cases h1 : inR x1 4
  · rw [if_pos h1, if_pos rfl, if_pos rfl, noLaneX, in_R x3 2 3 rfl, zbi_s, zbi_s]
    obtain ⟨c, hc, rfl⟩ := inR_f h1
    by_cases h3 : inR x3 3
    · rw [if_pos h3, if_pos h3, if_pos rfl, if_neg (show ¬ (1 : Int32) = 0 by decide)]
      obtain ⟨y, hy, rfl⟩ := inR_f h3
      obtain ⟨⟨f0, f1, f2, f3⟩, -, ⟨l9, l10, -⟩, -⟩ := p.1
      have i1 : zin (nI c) (zL h 10) = true := by rw [l10]; exact zin_nI hc (by omega)
      have xc : zx (nI c) = c := zx_nI (by omega)
      have q' := stM_f k.1 0 q
      have p' := stX_f 0 p
      generalize hI1 : zU I 0 0 0 = I1 at q' ⊢
      cases hS : S c with
      | none =>
        have r1 := (p.2.2.2.1 c hc).1 hS
        have d1 := (q'.2.2.1 c hc).1 hS
        have hj : gX12_cell_J2 0 (nI c) x2 (mH I1 J) = some (-9223372036854775808, mH (zU I1 0 0 1) J) := by
          unfold gX12_cell_J2
          rw [noCell_n hc d1, zbi_s, if_neg (by decide), zbi_s]
          rfl
        repeat (first | rw [zR_sI] | rw [zL_sI] | rw [f2] | rw [i1] | rw [xc] | rw [r1] | rw [mR_38] | rw [min_ (mL_30 _ _) hc (by omega)] | rw [mI_] | rw [d1] | rw [hj] | rw [zlt_] | rw [zjn_] | rw [zob_s] | rw [zg_1] | rw [zbi_s] | rw [zbI_s] | rw [zbr_s] | rw [zbR_s] | rw [zbV_s] | rw [zbj_s] | rw [zbJ_s] | rw [zcs_s] | rw [zcs_n])
        rw [if_pos (show (-1 : Int32) < 0 by decide), show gX11_faultOf (zsI h 0 5 0) none (nI y) x2 1 = some 1 from rfl, zbi_s, zlt_, zI_se, if_neg (by decide)]
        exact ⟨_, _, _, J, o, L, n, w, S, 1, tr, rfl, rfl, stX_f 1 p', stM_f k.1 1 q', k, stP_r h⟩
      | some s =>
        obtain ⟨a, x, b1, b2, b3, b4, ⟨b5, b6⟩, b7, b8⟩ := (p'.2.2.2.1 c hc).2 s hS
        obtain ⟨d1, d2, d3⟩ := (q'.2.2.1 c hc).2 s hS
        obtain ⟨s1, s2⟩ := k.2.2 c s hS
        have hlt : ¬ (nI s.2.1 : Int32) < 0 := nI_pos (by omega)
        have b1' : zR h 10 c = some a := b1
        have hf := faultOf_s b4 b7 s2 b3 (nI y) x2 1
        repeat (first | rw [zR_sI] | rw [zL_sI] | rw [f2] | rw [i1] | rw [xc] | rw [b1'] | rw [mR_38] | rw [mR_39] | rw [min_ (mL_30 _ _) hc (by omega)] | rw [min_ (mL_31 _ _) hc (by omega)] | rw [mI_] | rw [d1] | rw [d2] | rw [if_neg hlt] | rw [hf] | rw [zlt_] | rw [zjn_] | rw [zob_s] | rw [zg_1] | rw [zbi_s] | rw [zbI_s] | rw [zbr_s] | rw [zbR_s] | rw [zbV_s] | rw [zbj_s] | rw [zbJ_s] | rw [zcs_s] | rw [zcs_n])
        by_cases e : nI s.1 = nI y
        · rw [if_pos e, if_pos e]
          by_cases h2 : inR x2 s.2.1
          · rw [if_pos ((bey_1 _ _).mpr h2), zI_se, if_pos rfl]
            obtain ⟨i, hi, rfl⟩ := inR_f h2
            have i2 : zin (nI i) (zL h x) = true := by rw [show zL h x = s.2.1 from b7]; exact zin_nI hi (by omega)
            have xi : zx (nI i) = i := zx_nI (by omega)
            have e60 : 60 * nI c + nI i = nI (60 * c + i) := by rw [nI_o 60, pk_mul, nI_add]
            have x60 : zx (nI (60 * c + i)) = 60 * c + i := zx_nI (by omega)
            have o0 : o 0 = 100 := p.1.2.2.2.2.1
            have ox : x ≠ 0 := fun e => by rw [e, o0] at b6; omega
            have hj : gX12_cell_J2 0 (nI c) (nI i) (mH I1 J) = some ((s.2.2 i).toInt64, mH I1 J) := by
              unfold gX12_cell_J2
              rw [noCell_s hc s2 d1, zbi_s, if_pos h2, if_pos (Int32.le_refl _)]
              repeat (first | rw [e60] | rw [mR_40] | rw [min_ (mL_32 _ _) (show 60 * c + i < 240 by omega) (by omega)] | rw [x60] | rw [mI_] | rw [d3 i hi] | rw [zlt_] | rw [zjn_] | rw [zob_s] | rw [zg_1] | rw [zbi_s] | rw [zbI_s] | rw [zbr_s] | rw [zbR_s] | rw [zbV_s] | rw [zbj_s] | rw [zbJ_s] | rw [zcs_s] | rw [zcs_n])
            have b4' : zR h a 1 = some x := b4
            rw [hj]
            repeat (first | rw [zR_sI] | rw [zL_sI] | rw [b4'] | rw [i2] | rw [xi] | rw [zlt_] | rw [zjn_] | rw [zob_s] | rw [zg_1] | rw [zbi_s] | rw [zbI_s] | rw [zbr_s] | rw [zbR_s] | rw [zbV_s] | rw [zbj_s] | rw [zbJ_s] | rw [zcs_s] | rw [zcs_n])
            rw [zI_s, if_neg (by omega), b8 i hi]
            exact ⟨_, _, _, J, o, L, n, w, S, 0, tr, rfl, rfl, stX_f 0 p', q', k, stP_r h⟩
          · have hj : gX12_cell_J2 0 (nI c) x2 (mH I1 J) = some (-9223372036854775808, mH (zU I1 0 0 3) J) := by
              unfold gX12_cell_J2
              rw [noCell_s hc s2 d1, zbi_s, if_neg h2, if_neg (show ¬ (3 : Int32) ≤ 0 by decide), zbi_s]
              rfl
            rw [if_neg (fun hb => h2 ((bey_1 _ _).mp hb)), hj, zI_se, if_neg (by decide)]
            exact ⟨_, _, _, J, o, L, n, w, S, 3, tr, rfl, rfl, stX_f 3 p', stM_f k.1 3 q', k, stP_r h⟩
        · rw [if_neg e, if_neg e, zI_se, if_neg (show ¬ (2 : Int32) = 0 by decide)]
          exact ⟨_, _, _, J, o, L, n, w, S, 2, tr, rfl, rfl, stX_f 2 p', stM_f k.1 2 q', k, stP_r h⟩
    · rw [if_neg h3, if_neg h3, if_neg (by decide), if_pos rfl]
      exact stG_f p q k _ 0
  · rw [if_neg h1, if_neg (by decide), if_neg (by decide)]
    exact stG_f p q k _ 0
/-- one sheet is another one in the class -/
theorem stX_sheet {h' : Zh} {o' : Nat → Nat} {k : Nat} {s' : Option Sh} (m : zMv (fun t => t = 110) h o h' o') (hr : ∀ j, j ≠ k → zR h' 10 j = zR h 10 j) (hl : zL h' 10 = zL h 10) (hn : s' = none → zR h' 10 k = none) (hs : ∀ t, s' = some t → shXa h' o' k t) (p : stX SC h o L n w S fa tr) : stX SC h' o' L n w (shU S k s') fa tr := by
  obtain ⟨p1, p2, p3, p4, ⟨p5, p6⟩, p7, p8, p9⟩ := p
  obtain ⟨e0, e1, e3, e4, e9, e10, e11⟩ := p1.at m
  have e0 := e0 (by omega)
  have q1 : fixX h' o' := by
    obtain ⟨⟨r0, r1, r2, r3⟩, ⟨l0, l1, l2, l3⟩, ⟨l9, l10, k0⟩, hn, o0, o1, o3, o4, o9, o10, o11⟩ := p1
    have e1 := e1 (by omega)
    have e3 := e3 (by omega)
    have e4 := e4 (by omega)
    have e9 := e9 (by omega)
    exact ⟨⟨(e0.2.2.2.2 _).trans r0, (e0.2.2.2.2 _).trans r1, (e0.2.2.2.2 _).trans r2, (e0.2.2.2.2 _).trans r3⟩, ⟨(e1.2.2.2.2 _).trans l0, (e1.2.2.2.2 _).trans l1, e3.2.1.trans l2, e4.2.1.trans l3⟩, ⟨e9.2.1.trans l9, hl.trans l10, e0.1.trans k0⟩, Nat.le_trans hn m.1, (m.2.1 _ (by omega)).trans o0, (m.2.1 _ (by omega)).trans o1, (m.2.1 _ (by omega)).trans o3, (m.2.1 _ (by omega)).trans o4, (m.2.1 _ (by omega)).trans o9, (m.2.1 _ (by omega)).trans o10, (m.2.1 _ (by omega)).trans o11⟩
  refine ⟨q1, p2.mv m p1 (by omega) (by omega) (by omega) (by omega), p3.mv m p1 (by omega) (by omega) (e0.2.2.1 4), fun j hj => ?_, ⟨(e0.2.2.1 5).trans p5, ((e11 (by omega)).2.2.1 0).trans p6⟩, p7.mv m (by omega) (e0.2.2.2.2 8), p8.mv m (by omega) (e0.2.2.2.2 7), p9.mv m (by omega) (by omega) (e0.2.2.2.2 6)⟩
  unfold shU
  by_cases hjk : j = k
  · subst hjk
    rw [if_pos rfl]
    exact ⟨hn, hs⟩
  · rw [if_neg hjk]
    exact ⟨fun hn => (hr j hjk).trans ((p4 j hj).1 hn), fun t ht => ((p4 j hj).2 t ht).mv m (by omega) (by omega) (hr j hjk)⟩
theorem lose_st (p : stX SC h o L n w S fa tr) (q : stM I L n w S fa tr) (k : stOk L n w S) (x1 : Int32) : stG SC (gX11_lose h 0 x1) (gX12_lose (mH I J) 0 x1) h := by
  unfold gX11_lose gX12_lose
  rw [noSheetX, zbi_s, noSheetM, zbi_s]
  by_cases h1 : inR x1 4
  · rw [if_pos h1, if_pos rfl, if_pos rfl]
    obtain ⟨c, hc, rfl⟩ := inR_f h1
    obtain ⟨⟨f0, f1, f2, f3⟩, -, ⟨l9, l10, -⟩, -, -, -, -, -, -, o10, -⟩ := p.1
    have i1 : zin (nI c) (zL h 10) = true := by rw [l10]; exact zin_nI hc (by omega)
    have xc : zx (nI c) = c := zx_nI (by omega)
    have hX : ∀ v : Int32, gX11_lose_J1 h 0 (nI c) v = some (v, zsR h 10 c none) := fun v => by
      unfold gX11_lose_J1
      repeat (first | rw [f2] | rw [i1] | rw [xc] | rw [zlt_] | rw [zjn_] | rw [zob_s] | rw [zg_1] | rw [zbi_s] | rw [zbI_s] | rw [zbr_s] | rw [zbR_s] | rw [zbV_s] | rw [zbj_s] | rw [zbJ_s] | rw [zcs_s] | rw [zcs_n])
    have hM : ∀ v : Int32, gX12_lose_J1 (mH I J) 0 (nI c) v = some (v, mH (zU I 30 c (-1)) J) := fun v => by
      unfold gX12_lose_J1
      repeat (first | rw [mR_38] | rw [min_ (mL_30 _ _) hc (by omega)] | rw [xc] | rw [msI] | rw [zlt_] | rw [zjn_] | rw [zob_s] | rw [zg_1] | rw [zbi_s] | rw [zbI_s] | rw [zbr_s] | rw [zbR_s] | rw [zbV_s] | rw [zbj_s] | rw [zbJ_s] | rw [zcs_s] | rw [zcs_n])
    have px : stX SC (zsR h 10 c none) o L n w (shU S c none) fa tr := stX_sheet (zMv.sR o10) (fun j hj => by rw [zR_s, if_neg (by omega)]) rfl (fun _ => by rw [zR_se]) (fun t ht => by cases ht) p
    have qx : stM (zU I 30 c (-1)) L n w (shU S c none) fa tr := stM_row k.1 k.2.2 (fun a b n1 n2 n3 n4 => zU_n _ _ _ _ _ _ (by omega)) (fun _ => zU_e _ _ _ _) (fun t ht => by cases ht) q
    have hk : stOk L n w (shU S c none) := ⟨k.1, k.2.1, shOk_U k.2.2 (fun t ht => by cases ht)⟩
    cases hS : S c with
    | none =>
      have r1 := (p.2.2.2.1 c hc).1 hS
      have d1 := (q.2.2.1 c hc).1 hS
      repeat (first | rw [f2] | rw [i1] | rw [xc] | rw [r1] | rw [mR_38] | rw [min_ (mL_30 _ _) hc (by omega)] | rw [mI_] | rw [d1] | rw [hX] | rw [hM] | rw [zlt_] | rw [zjn_] | rw [zob_s] | rw [zg_1] | rw [zbi_s] | rw [zbI_s] | rw [zbr_s] | rw [zbR_s] | rw [zbV_s] | rw [zbj_s] | rw [zbJ_s] | rw [zcs_s] | rw [zcs_n])
      rw [if_neg (by decide)]
      exact ⟨_, _, _, J, o, L, n, w, _, fa, tr, rfl, rfl, px, qx, hk, stP_r h⟩
    | some s =>
      obtain ⟨a, x, b1, -⟩ := (p.2.2.2.1 c hc).2 s hS
      obtain ⟨d1, d2, d3⟩ := (q.2.2.1 c hc).2 s hS
      obtain ⟨s1, s2⟩ := k.2.2 c s hS
      have h0 : (0 : Int32) ≤ nI s.2.1 := Int32.not_lt.mp (nI_pos (by omega))
      repeat (first | rw [f2] | rw [i1] | rw [xc] | rw [b1] | rw [mR_38] | rw [min_ (mL_30 _ _) hc (by omega)] | rw [mI_] | rw [d1] | rw [hX] | rw [hM] | rw [zlt_] | rw [zjn_] | rw [zob_s] | rw [zg_1] | rw [zbi_s] | rw [zbI_s] | rw [zbr_s] | rw [zbR_s] | rw [zbV_s] | rw [zbj_s] | rw [zbJ_s] | rw [zcs_s] | rw [zcs_n])
      rw [if_pos h0]
      exact ⟨_, _, _, J, o, L, n, w, _, fa, tr, rfl, rfl, px, qx, hk, stP_r h⟩
  · rw [if_neg h1, if_neg (by decide), if_neg (by decide)]
    exact stG_0 p q k _
/-- a run of zeros in a row -/
def zz (I : Nat → Nat → Int32) (r b m : Nat) : Nat → Nat → Int32 := fun a j => if a = r ∧ b ≤ j ∧ j < b + m then 0 else I a j
theorem zz_0 (I : Nat → Nat → Int32) (r b : Nat) : zz I r b 0 = I := by
  funext a j
  unfold zz
  rw [if_neg (by omega)]
theorem zz_s (I : Nat → Nat → Int32) (r b m : Nat) : zU (zz I r b m) r (b + m) 0 = zz I r b (m + 1) := by
  refine zU_g (fun x j hx => ?_) (fun j hj => ?_) ?_
  · unfold zz
    rw [if_neg (by omega), if_neg (by omega)]
  · unfold zz
    by_cases e : r = r ∧ b ≤ j ∧ j < b + m
    · rw [if_pos e, if_pos (by omega)]
    · rw [if_neg e, if_neg (by omega)]
  · unfold zz
    rw [if_pos (by omega)]
theorem sheet_lp (c m : Nat) (hc : c < 4) (hm : m ≤ 60) (I : Nat → Nat → Int32) (J : Nat → Nat → Int64) (K : Zh → Option (Int32 × Zh)) : zlp (fun (_ : Int32) (_ : Zh) => (none : Option (Int32 × Zh))) (gX12_sheet_L3 0 (nI c) (nI m) K) zFU 0 (mH I J) = K (mH (zz I 32 (60 * c) m) J) := by
  have hh := zlp_it (R := Option (Int32 × Zh)) (z := fun (_ : Int32) (_ : Zh) => (none : Option (Int32 × Zh))) (F := gX12_sheet_L3 0 (nI c) (nI m) K) (fun i (F : Int32 → Zh → Option (Int32 × Zh)) => F (nI i) (mH (zz I 32 (60 * c) i) J)) (K (mH (zz I 32 (60 * c) m) J)) m ?_ ?_ zFU (by unfold zFU; omega)
  · rw [zz_0] at hh; exact hh
  · intro i hi r
    show gX12_sheet_L3 0 (nI c) (nI m) K r (nI i) (mH (zz I 32 (60 * c) i) J) = r (nI (i + 1)) (mH (zz I 32 (60 * c) (i + 1)) J)
    unfold gX12_sheet_L3
    have e60 : 60 * nI c + nI i = nI (60 * c + i) := by rw [nI_o 60, pk_mul, nI_add]
    rw [if_neg (zge_n hi (by omega))]
    repeat (first | rw [e60] | rw [mR_40] | rw [min_ (mL_32 _ _) (show 60 * c + i < 240 by omega) (by omega)] | rw [zx_nI (show 60 * c + i < 2 ^ 31 by omega)] | rw [msI] | rw [zz_s] | rw [← nI_sc] | rw [zlt_] | rw [zjn_] | rw [zob_s] | rw [zg_1] | rw [zbi_s] | rw [zbI_s] | rw [zbr_s] | rw [zbR_s] | rw [zbV_s] | rw [zbj_s] | rw [zbJ_s] | rw [zcs_s] | rw [zcs_n])
  · intro r
    show gX12_sheet_L3 0 (nI c) (nI m) K r (nI m) _ = _
    unfold gX12_sheet_L3
    rw [if_pos (Int32.le_refl _)]
theorem sheet_st (p : stX SC h o L n w S fa tr) (q : stM I L n w S fa tr) (k : stOk L n w S) (x1 x2 x3 : Int32) : stG SC (gX11_sheet h 0 x1 x2 x3) (gX12_sheet (mH I J) 0 x1 x2 x3) h := by
  unfold gX11_sheet gX12_sheet
  rw [zlt_, noSheetX, zbi_s, noSheetM, zbi_s]
  have hj1 : gX12_sheet_J1 (mH I J) 0 = some (-2, mH (zU I 0 0 0) J) := rfl
  by_cases h1 : inR x1 4
  · rw [if_pos h1, if_pos rfl, if_pos rfl, noLaneX, in_R x2 2 3 rfl, zbi_s, zbi_s, zjn_, hj1]
    obtain ⟨c, hc, rfl⟩ := inR_f h1
    by_cases h2 : inR x2 3
    · rw [if_pos h2, if_pos h2, if_pos rfl, if_neg (show ¬ (1 : Int32) = 0 by decide)]
      obtain ⟨l, hl, rfl⟩ := inR_f h2
      by_cases h3 : x3 ≤ 60
      · rw [if_pos h3, if_pos h3]
        by_cases h4 : 0 ≤ x3
        · rw [if_pos h4, if_pos h4]
          obtain ⟨m, hm, rfl⟩ := inR_f (x := x3) (n := 61) (by
            rw [Int32.le_iff_toInt_le] at h3 h4
            rw [show (60 : Int32).toInt = 60 from rfl] at h3
            rw [show (0 : Int32).toInt = 0 from rfl] at h4
            omega)
          obtain ⟨⟨f0, f1, f2, f3⟩, -, ⟨l9, l10, -⟩, hN, o0, -, -, -, -, o10, -⟩ := p.1
          have xc : zx (nI c) = c := zx_nI (by omega)
          have xm : zx (nI m) = m := zx_nI (by omega)
          have okm : zok (nI m) = true := by
            unfold zok
            rw [show (nI m).toNatClampNeg = m from xm, decide_eq_true (nI_pos (by omega)), decide_eq_true (show m ≤ 60000000 by omega)]; rfl
          have p' := stX_f 0 p
          generalize hh1 : zsI h 0 5 0 = h1 at p' ⊢
          have hN1 : zN h1 = zN h := by rw [← hh1]; rfl
          have hS1 : zS h1 = zS h := by rw [← hh1]; rfl
          have g2 : zR h1 0 2 = some 10 := by rw [← hh1]; exact f2
          have gl : zL h1 10 = 4 := by rw [← hh1]; exact l10
          let ha := zA h1 6 2
          let hb := zA ha 20 m
          let hcc := zsR (zsI hb (zN h1) 0 (nI l)) (zN h1) 1 (some (zN ha))
          have hbL : zL hb 10 = 4 := by
            show zL (zA (zA h1 6 2) 20 m) 10 = 4
            rw [zA_L (by rw [zA_N]; omega), zA_L (by omega)]; exact gl
          have i1 : zin (nI c) (zL hcc 10) = true := by
            show zin (nI c) (zL hb 10) = true
            rw [hbL]; exact zin_nI hc (by omega)
          have hini : gX6_init hb (zN h1) (nI l) (some (zN ha)) = some hcc := rfl
          rw [zlt_, g2, zlt_, zlt_, okm, zg_1, zlt_, zlt_, xm]
          show stG SC (zbV (gX6_init hb (zN h1) (nI l) (some (zN ha))) _) _ h
          rw [hini, zbV_s, zob_s, i1, zg_1, zlt_, xc]
          repeat (first | rw [mR_38] | rw [mR_39] | rw [min_ (mL_30 _ _) hc (by omega)] | rw [min_ (mL_31 _ _) hc (by omega)] | rw [xc] | rw [msI] | rw [zlt_] | rw [zjn_] | rw [zob_s] | rw [zg_1] | rw [zbi_s] | rw [zbI_s] | rw [zbr_s] | rw [zbR_s] | rw [zbV_s] | rw [zbj_s] | rw [zbJ_s] | rw [zcs_s] | rw [zcs_n])
          rw [sheet_lp c m hc (by omega)]
          unfold gX12_sheet_J2
          rw [refusedM, zbI_s]
          let o2 := oA ha (oA h1 o 1) (10 + c)
          have hNa : zN ha = zN h1 + 1 := rfl
          have hNb : zN hcc = zN h1 + 2 := rfl
          have oa : o2 (zN h1) = 1 := by
            show (if zN h1 = zN ha then 10 + c else (if zN h1 = zN h1 then 1 else o (zN h1))) = 1
            rw [if_neg (by omega), if_pos rfl]
          have ox : o2 (zN ha) = 10 + c := if_pos rfl
          have ho : ∀ a, a < zN h1 → o2 a = o a := fun a h2 => by
            show (if a = zN ha then 10 + c else (if a = zN h1 then 1 else o a)) = o a
            rw [if_neg (by omega), if_neg (by omega)]
          have m1 : zMv (fun t => t = 110) h1 o hb o2 := (zMv.A 1).tr (zMv.A (10 + c))
          have m2 : zMv (fun t => t = 110) h1 o (zsR hcc 10 c (some (zN h1))) o2 := by
            refine ⟨by rw [zN_sR, hNb]; omega, ho, fun a ha2 ht => ?_⟩
            have e := m1.2.2 a ha2 ht
            refine e.tr ⟨rfl, rfl, fun j => ?_, fun _ => rfl, fun j => ?_⟩
            · show zI (zsI hb (zN h1) 0 (nI l)) a j = zI hb a j
              rw [zI_s, if_neg (by omega)]
            · rw [zR_s, if_neg (fun e => ht (by rw [e.1]; exact o10))]
              show zR (zsR (zsI hb (zN h1) 0 (nI l)) (zN h1) 1 (some (zN ha))) a j = zR hb a j
              rw [zR_s, if_neg (by omega)]; rfl
          have px : stX SC (zsR hcc 10 c (some (zN h1))) o2 L n w (shU S c (some (l, m, fun _ => 0))) 0 tr := by
            refine stX_sheet m2 (fun j hj => ?_) ?_ (fun hn => (by cases hn)) (fun t ht => ?_) p'
            · rw [zR_s, if_neg (by omega)]
              show zR (zsR (zsI hb (zN h1) 0 (nI l)) (zN h1) 1 (some (zN ha))) 10 j = zR h1 10 j
              rw [zR_s, if_neg (by omega)]
              have m0 : zMv (fun _ => False) h1 o hb o2 := (zMv.A 1).tr (zMv.A (10 + c))
              exact (m0.2.2 10 (by omega) (fun hh => hh)).2.2.2.2 j
            · exact hbL.trans gl.symm
            · obtain rfl := Option.some.inj ht
              refine ⟨zN h1, zN ha, by rw [zR_se], ⟨by rw [zN_sR, hNb]; omega, oa⟩, ?_, ?_, ⟨by rw [zN_sR, hNb, hNa]; omega, ox⟩, ?_, fun i hi => ?_⟩
              · show zI (zsI hb (zN h1) 0 (nI l)) (zN h1) 0 = nI l
                rw [zI_se]
              · rw [zR_s, if_neg (by omega)]
                show zR (zsR (zsI hb (zN h1) 0 (nI l)) (zN h1) 1 (some (zN ha))) (zN h1) 1 = some (zN ha)
                rw [zR_se]
              · exact zA_Ln ha 20 m
              · show zI (zsI hb (zN h1) 0 (nI l)) (zN ha) i = 0
                rw [zI_s, if_neg (by omega)]
                exact zA_In ha 20 m i
          have qx : stM (zU (zz (zU (zU I 30 c (nI m)) 31 c (nI l)) 32 (60 * c) m) 0 0 0) L n w (shU S c (some (l, m, fun _ => 0))) 0 tr := by
            refine stM_f k.1 0 (stM_row k.1 k.2.2 (fun a b n1 n2 n3 n4 => ?_) (fun hn => (by cases hn)) (fun t ht => ?_) q)
            · unfold zz
              rw [if_neg (by omega), zU_n _ _ _ _ _ _ (by omega), zU_n _ _ _ _ _ _ (by omega)]
            · obtain rfl := Option.some.inj ht
              refine ⟨?_, ?_, fun i hi => ?_⟩
              · unfold zz
                rw [if_neg (by omega), zU_n _ _ _ _ _ _ (by omega), zU_e]
              · unfold zz
                rw [if_neg (by omega), zU_e]
              · unfold zz
                have hi : i < m := hi
                rw [if_pos (by omega)]
          refine ⟨_, _, _, J, o2, L, n, w, _, 0, tr, rfl, rfl, px, qx, ⟨k.1, k.2.1, shOk_U k.2.2 (fun t ht => by obtain rfl := Option.some.inj ht; exact ⟨by show l ≤ 2; omega, by show m ≤ 60; omega⟩)⟩, ?_⟩
          have hSb : zS (zsR hcc 10 c (some (zN h1))) = zS h1 + 2 + m := rfl
          refine ⟨by rw [zN_sR, hNb]; omega, ?_⟩
          rw [hSb, hS1]
          omega
        · rw [if_neg h4, if_neg h4, failedM, faultedX]
          exact stG_ff p q k _ 4
      · rw [if_neg h3, if_neg h3]
        exact stG_f p q k _ 0
    · rw [if_neg h2, if_neg h2, if_neg (by decide), if_pos rfl]
      exact stG_f p q k _ 0
  · rw [if_neg h1, if_neg (by decide), if_neg (by decide), refusedM]
    exact stG_f p q k _ 0
/-- a run of a row copied into another row -/
def cpy (I : Nat → Nat → Int32) (r1 b1 r2 b2 m : Nat) : Nat → Nat → Int32 := fun a j => if a = r2 ∧ b2 ≤ j ∧ j < b2 + m then I r1 (b1 + (j - b2)) else I a j
theorem cpy_0 (I : Nat → Nat → Int32) (r1 b1 r2 b2 : Nat) : cpy I r1 b1 r2 b2 0 = I := by
  funext a j
  unfold cpy
  rw [if_neg (by omega)]
theorem cpy_s (I : Nat → Nat → Int32) (r1 b1 r2 b2 m : Nat) : zU (cpy I r1 b1 r2 b2 m) r2 (b2 + m) (I r1 (b1 + m)) = cpy I r1 b1 r2 b2 (m + 1) := by
  refine zU_g (fun x j hx => ?_) (fun j hj => ?_) ?_
  · unfold cpy
    rw [if_neg (by omega), if_neg (by omega)]
  · unfold cpy
    by_cases e : r2 = r2 ∧ b2 ≤ j ∧ j < b2 + m
    · rw [if_pos e, if_pos (by omega)]
    · rw [if_neg e, if_neg (by omega)]
  · unfold cpy
    rw [if_pos (by omega), Nat.add_sub_cancel_left]
theorem cpy_o (I : Nat → Nat → Int32) (r1 b1 r2 b2 m a j : Nat) (ha : a ≠ r2) : cpy I r1 b1 r2 b2 m a j = I a j := if_neg (fun e => ha e.1)
theorem copy_lp1 (c i m : Nat) (hb : 60 * c + i + m ≤ 240) (hm : m ≤ 60) (I : Nat → Nat → Int32) (J : Nat → Nat → Int64) (K : Zh → Option (Int32 × Zh)) : zlp (fun (_ : Int32) (_ : Zh) => (none : Option (Int32 × Zh))) (gX12_copy_L7 0 (nI c) (nI i) (nI m) K) zFU 0 (mH I J) = K (mH (cpy I 32 (60 * c + i) 33 0 m) J) := by
  have hh := zlp_it (R := Option (Int32 × Zh)) (z := fun (_ : Int32) (_ : Zh) => (none : Option (Int32 × Zh))) (F := gX12_copy_L7 0 (nI c) (nI i) (nI m) K) (fun x (F : Int32 → Zh → Option (Int32 × Zh)) => F (nI x) (mH (cpy I 32 (60 * c + i) 33 0 x) J)) (K (mH (cpy I 32 (60 * c + i) 33 0 m) J)) m ?_ ?_ zFU (by unfold zFU; omega)
  · rw [cpy_0] at hh; exact hh
  · intro x hx r
    show gX12_copy_L7 0 (nI c) (nI i) (nI m) K r (nI x) (mH (cpy I 32 (60 * c + i) 33 0 x) J) = r (nI (x + 1)) (mH (cpy I 32 (60 * c + i) 33 0 (x + 1)) J)
    unfold gX12_copy_L7
    have e60 : (60 * nI c + nI i) + nI x = nI (60 * c + i + x) := by rw [nI_o 60, pk_mul, nI_add, nI_add]
    have hs := cpy_s I 32 (60 * c + i) 33 0 x
    rw [Nat.zero_add] at hs
    rw [if_neg (zge_n hx (by omega))]
    repeat (first | rw [e60] | rw [mR_40] | rw [mR_41] | rw [min_ (mL_32 _ _) (show 60 * c + i + x < 240 by omega) (by omega)] | rw [min_ (mL_33 _ _) (show x < 60 by omega) (by omega)] | rw [zx_nI (show 60 * c + i + x < 2 ^ 31 by omega)] | rw [zx_nI (show x < 2 ^ 31 by omega)] | rw [msI] | rw [mI_] | rw [cpy_o _ _ _ _ _ _ 32 _ (by decide)] | rw [hs] | rw [← nI_sc] | rw [zlt_] | rw [zjn_] | rw [zob_s] | rw [zg_1] | rw [zbi_s] | rw [zbI_s] | rw [zbr_s] | rw [zbR_s] | rw [zbV_s] | rw [zbj_s] | rw [zbJ_s] | rw [zcs_s] | rw [zcs_n])
  · intro r
    show gX12_copy_L7 0 (nI c) (nI i) (nI m) K r (nI m) _ = _
    unfold gX12_copy_L7
    rw [if_pos (Int32.le_refl _)]
theorem copy_lp2 (c i m : Nat) (hb : 60 * c + i + m ≤ 240) (hm : m ≤ 60) (I : Nat → Nat → Int32) (J : Nat → Nat → Int64) (K : Zh → Option (Int32 × Zh)) : zlp (fun (_ : Int32) (_ : Zh) => (none : Option (Int32 × Zh))) (gX12_copy_L5 0 (nI c) (nI i) (nI m) K) zFU 0 (mH I J) = K (mH (cpy I 33 0 32 (60 * c + i) m) J) := by
  have hh := zlp_it (R := Option (Int32 × Zh)) (z := fun (_ : Int32) (_ : Zh) => (none : Option (Int32 × Zh))) (F := gX12_copy_L5 0 (nI c) (nI i) (nI m) K) (fun x (F : Int32 → Zh → Option (Int32 × Zh)) => F (nI x) (mH (cpy I 33 0 32 (60 * c + i) x) J)) (K (mH (cpy I 33 0 32 (60 * c + i) m) J)) m ?_ ?_ zFU (by unfold zFU; omega)
  · rw [cpy_0] at hh; exact hh
  · intro x hx r
    show gX12_copy_L5 0 (nI c) (nI i) (nI m) K r (nI x) (mH (cpy I 33 0 32 (60 * c + i) x) J) = r (nI (x + 1)) (mH (cpy I 33 0 32 (60 * c + i) (x + 1)) J)
    unfold gX12_copy_L5
    have e60 : (60 * nI c + nI i) + nI x = nI (60 * c + i + x) := by rw [nI_o 60, pk_mul, nI_add, nI_add]
    have hs := cpy_s I 33 0 32 (60 * c + i) x
    rw [Nat.zero_add] at hs
    rw [if_neg (zge_n hx (by omega))]
    repeat (first | rw [e60] | rw [mR_40] | rw [mR_41] | rw [min_ (mL_32 _ _) (show 60 * c + i + x < 240 by omega) (by omega)] | rw [min_ (mL_33 _ _) (show x < 60 by omega) (by omega)] | rw [zx_nI (show 60 * c + i + x < 2 ^ 31 by omega)] | rw [zx_nI (show x < 2 ^ 31 by omega)] | rw [msI] | rw [mI_] | rw [cpy_o _ _ _ _ _ _ 33 _ (by decide)] | rw [hs] | rw [← nI_sc] | rw [zlt_] | rw [zjn_] | rw [zob_s] | rw [zg_1] | rw [zbi_s] | rw [zbI_s] | rw [zbr_s] | rw [zbR_s] | rw [zbV_s] | rw [zbj_s] | rw [zbJ_s] | rw [zcs_s] | rw [zcs_n])
  · intro r
    show gX12_copy_L5 0 (nI c) (nI i) (nI m) K r (nI m) _ = _
    unfold gX12_copy_L5
    rw [if_pos (Int32.le_refl _)]
theorem copy_st (p : stX SC h o L n w S fa tr) (q : stM I L n w S fa tr) (k : stOk L n w S) (x1 x2 x3 x4 x5 : Int32) : stG SC (gX11_copy h 0 x1 x2 x3 x4 x5) (gX12_copy (mH I J) 0 x1 x2 x3 x4 x5) h := by
  unfold gX11_copy gX12_copy
  rw [zlt_, noSheetX, zbi_s, noSheetM, zbi_s, zjn_]
  have hj1 : gX12_copy_J1 (mH I J) 0 = some (-1, mH (zU I 0 0 0) J) := rfl
  have hj2 : gX12_copy_J2 (mH I J) 0 = some (-11, mH (zU I 0 0 1) J) := rfl
  have hj3 : gX12_copy_J3 (mH I J) 0 = some (-13, mH (zU I 0 0 3) J) := rfl
  have hk1 : ∀ g, gX11_copy_J1 0 g = some (-11, zsI g 0 5 1) := fun g => rfl
  have hk2 : ∀ g, gX11_copy_J2 0 g = some (-13, zsI g 0 5 3) := fun g => rfl
  rw [hj1]
  by_cases h1 : inR x1 4
  · rw [if_pos h1, if_pos rfl, if_pos rfl, noSheetX, zbi_s, noSheetM, zbi_s]
    by_cases h3 : inR x3 4
    · rw [if_pos h3, if_pos rfl, if_pos rfl]
      obtain ⟨c, hc, rfl⟩ := inR_f h1
      obtain ⟨d, hd, rfl⟩ := inR_f h3
      have p' := stX_f 0 p
      obtain ⟨⟨f0, f1, f2, f3⟩, -, ⟨l9, l10, -⟩, -⟩ := p'.1
      generalize hh1 : zsI h 0 5 0 = h1 at p' f0 f1 f2 f3 l9 l10 ⊢
      have hN1 : zN h1 = zN h := by rw [← hh1]; rfl
      have hS1 : zS h1 = zS h := by rw [← hh1]; rfl
      have i1 : zin (nI c) (zL h1 10) = true := by rw [l10]; exact zin_nI hc (by omega)
      have i2 : zin (nI d) (zL h1 10) = true := by rw [l10]; exact zin_nI hd (by omega)
      have xc : zx (nI c) = c := zx_nI (by omega)
      have xd : zx (nI d) = d := zx_nI (by omega)
      cases hS : S c with
      | none =>
        have r1 := (p'.2.2.2.1 c hc).1 hS
        have d1 := (q.2.2.1 c hc).1 hS
        repeat (first | rw [f2] | rw [i1] | rw [i2] | rw [xc] | rw [xd] | rw [r1] | rw [mR_38] | rw [min_ (mL_30 _ _) hc (by omega)] | rw [mI_] | rw [d1] | rw [hj2] | rw [hk1] | rw [zlt_] | rw [zjn_] | rw [zob_s] | rw [zg_1] | rw [zbi_s] | rw [zbI_s] | rw [zbr_s] | rw [zbR_s] | rw [zbV_s] | rw [zbj_s] | rw [zbJ_s] | rw [zcs_s] | rw [zcs_n])
        rw [if_pos (by decide), ← hh1]
        exact stG_ff p q k _ 1
      | some s =>
        obtain ⟨a, x, b1, b2, b3, b4, ⟨b5, b6⟩, b7, b8⟩ := (p'.2.2.2.1 c hc).2 s hS
        obtain ⟨d1, d2, d3⟩ := (q.2.2.1 c hc).2 s hS
        obtain ⟨s1, s2⟩ := k.2.2 c s hS
        have hlt : ¬ (nI s.2.1 : Int32) < 0 := nI_pos (by omega)
        cases hT : S d with
        | none =>
          have r2 := (p'.2.2.2.1 d hd).1 hT
          have g1 := (q.2.2.1 d hd).1 hT
          repeat (first | rw [f2] | rw [i1] | rw [i2] | rw [xc] | rw [xd] | rw [b1] | rw [r2] | rw [mR_38] | rw [min_ (mL_30 _ _) hc (by omega)] | rw [min_ (mL_30 _ _) hd (by omega)] | rw [mI_] | rw [d1] | rw [g1] | rw [if_neg hlt] | rw [hj2] | rw [hk1] | rw [zlt_] | rw [zjn_] | rw [zob_s] | rw [zg_1] | rw [zbi_s] | rw [zbI_s] | rw [zbr_s] | rw [zbR_s] | rw [zbV_s] | rw [zbj_s] | rw [zbJ_s] | rw [zcs_s] | rw [zcs_n])
          rw [if_neg (by decide), ← hh1]
          exact stG_ff p q k _ 1
        | some t =>
          obtain ⟨a', x', b1', b2', b3', b4', ⟨b5', b6'⟩, b7', b8'⟩ := (p'.2.2.2.1 d hd).2 t hT
          obtain ⟨g1, g2, g3⟩ := (q.2.2.1 d hd).2 t hT
          obtain ⟨t1, t2⟩ := k.2.2 d t hT
          have h0 : (0 : Int32) ≤ nI t.2.1 := Int32.not_lt.mp (nI_pos (by omega))
          repeat (first | rw [f2] | rw [i1] | rw [i2] | rw [xc] | rw [xd] | rw [b1] | rw [b1'] | rw [b3] | rw [b3'] | rw [mR_38] | rw [mR_39] | rw [min_ (mL_30 _ _) hc (by omega)] | rw [min_ (mL_30 _ _) hd (by omega)] | rw [min_ (mL_31 _ _) hc (by omega)] | rw [min_ (mL_31 _ _) hd (by omega)] | rw [mI_] | rw [d1] | rw [d2] | rw [g1] | rw [g2] | rw [if_neg hlt] | rw [if_pos h0] | rw [zlt_] | rw [zjn_] | rw [zob_s] | rw [zg_1] | rw [zbi_s] | rw [zbI_s] | rw [zbr_s] | rw [zbR_s] | rw [zbV_s] | rw [zbj_s] | rw [zbJ_s] | rw [zcs_s] | rw [zcs_n])
          by_cases e : nI s.1 = nI t.1
          · rw [if_pos e, if_pos e, has_ok b4 b7 s2, has_ok b4' b7' t2]
            repeat (first | rw [hj3] | rw [hk2] | rw [mR_38] | rw [min_ (mL_30 _ _) hc (by omega)] | rw [min_ (mL_30 _ _) hd (by omega)] | rw [mI_] | rw [xc] | rw [xd] | rw [d1] | rw [g1] | rw [isBeyond_ok x2 x5 s.2.1 s2] | rw [isBeyond_ok x4 x5 t.2.1 t2] | rw [zlt_] | rw [zjn_] | rw [zob_s] | rw [zg_1] | rw [zbi_s] | rw [zbI_s] | rw [zbr_s] | rw [zbR_s] | rw [zbV_s] | rw [zbj_s] | rw [zbJ_s] | rw [zcs_s] | rw [zcs_n])
            by_cases e1 : bey x2 x5 s.2.1
            · rw [if_pos e1, if_pos e1, if_neg (show ¬ (1 : Int32) = 0 by decide), if_pos rfl]
              by_cases e2 : bey x4 x5 t.2.1
              · rw [if_pos e2, if_pos e2, if_neg (show ¬ (1 : Int32) = 0 by decide), if_pos rfl]
                obtain ⟨i, hi, rfl⟩ := inR_f (x := x2) (n := 61) (by omega)
                obtain ⟨j, hj, rfl⟩ := inR_f (x := x4) (n := 61) (by omega)
                obtain ⟨m, hm, rfl⟩ := inR_f (x := x5) (n := 61) (by omega)
                have E1 : i + m ≤ s.2.1 := by
                  have := e1.2.2
                  rw [nI_int (by omega), nI_int (by omega)] at this
                  omega
                have E2 : j + m ≤ t.2.1 := by
                  have := e2.2.2
                  rw [nI_int (by omega), nI_int (by omega)] at this
                  omega
                rw [copy_lp1 c i m (by omega) (by omega)]
                unfold gX12_copy_J6
                rw [zjn_, copy_lp2 d j m (by omega) (by omega)]
                unfold gX12_copy_J4
                rw [refusedM, zbI_s]
                have xi : zx (nI i) = i := zx_nI (by omega)
                have xj : zx (nI j) = j := zx_nI (by omega)
                have xm : zx (nI m) = m := zx_nI (by omega)
                have hcp : zcp h1 x (nI i) x' (nI j) (nI m) = true := by
                  unfold zcp
                  rw [xi, xj, xm, b7, b7', decide_eq_true (nI_pos (show i < 2 ^ 31 by omega)), decide_eq_true (nI_pos (show j < 2 ^ 31 by omega)), decide_eq_true (nI_pos (show m < 2 ^ 31 by omega)), decide_eq_true E1, decide_eq_true E2]
                  rfl
                repeat (first | rw [b4] | rw [b4'] | rw [hcp] | rw [xi] | rw [xj] | rw [xm] | rw [zlt_] | rw [zjn_] | rw [zob_s] | rw [zg_1] | rw [zbi_s] | rw [zbI_s] | rw [zbr_s] | rw [zbR_s] | rw [zbV_s] | rw [zbj_s] | rw [zbJ_s] | rw [zcs_s] | rw [zcs_n])
                have m1 : zMv (fun u => u = 10 + d) h1 o (zcI h1 x i x' j m) o := ⟨Nat.le_refl _, fun _ _ => rfl, fun b _ hb => ⟨rfl, rfl, fun u => if_neg (fun (e : b = x') => hb (by rw [e]; exact b6')), fun _ => rfl, fun _ => rfl⟩⟩
                have px := stX_row (s' := (t.1, t.2.1, fun u => if j ≤ u ∧ u < j + m then s.2.2 (i + (u - j)) else t.2.2 u)) hd hT rfl rfl b1' b4' m1 rfl (fun u hu => by
                  show (if x' = x' then va_cpy (zI h1 x) (zI h1 x') i j m u else zI h1 x' u) = _
                  rw [if_pos rfl]
                  unfold va_cpy
                  by_cases hju : j ≤ u ∧ u < j + m
                  · rw [if_pos hju]
                    exact (b8 _ (by omega)).trans (if_pos hju).symm
                  · rw [if_neg hju]
                    exact (b8' _ hu).trans (if_neg hju).symm) p'
                have qx : stM (zU (cpy (cpy I 32 (60 * c + i) 33 0 m) 33 0 32 (60 * d + j) m) 0 0 0) L n w (shU S d (some (t.1, t.2.1, fun u => if j ≤ u ∧ u < j + m then s.2.2 (i + (u - j)) else t.2.2 u))) 0 tr := by
                  refine stM_f k.1 0 (stM_row k.1 k.2.2 (fun a b n1 n2 n3 n4 => ?_) (fun hn => (by cases hn)) (fun v hv => ?_) q)
                  · unfold cpy
                    rw [if_neg (by omega), if_neg (by omega)]
                  · obtain rfl := Option.some.inj hv
                    refine ⟨?_, ?_, fun u hu => ?_⟩
                    · rw [cpy_o _ _ _ _ _ _ 30 _ (by decide), cpy_o _ _ _ _ _ _ 30 _ (by decide)]; exact g1
                    · rw [cpy_o _ _ _ _ _ _ 31 _ (by decide), cpy_o _ _ _ _ _ _ 31 _ (by decide)]; exact g2
                    · have hu : u < t.2.1 := hu
                      show cpy (cpy I 32 (60 * c + i) 33 0 m) 33 0 32 (60 * d + j) m 32 (60 * d + u) = (if j ≤ u ∧ u < j + m then s.2.2 (i + (u - j)) else t.2.2 u)
                      by_cases hju : j ≤ u ∧ u < j + m
                      · rw [if_pos hju]
                        unfold cpy
                        rw [if_pos (by omega), if_pos (by omega), ← d3 (i + (u - j)) (by omega)]
                        congr 1
                        omega
                      · rw [if_neg hju]
                        unfold cpy
                        rw [if_neg (by omega), if_neg (by omega)]
                        exact g3 u hu
                exact ⟨_, _, _, J, o, L, n, w, _, 0, tr, rfl, rfl, px, qx, ⟨k.1, k.2.1, shOk_U k.2.2 (fun v hv => by obtain rfl := Option.some.inj hv; exact ⟨t1, t2⟩)⟩, by
                  refine ⟨?_, ?_⟩
                  · show zN h1 ≤ _
                    omega
                  · show zS h1 ≤ _
                    omega⟩
              · rw [if_neg e2, if_neg e2, if_pos rfl, if_neg (show ¬ (1 : Int32) = 0 by decide), ← hh1]
                exact stG_ff p q k _ 3
            · rw [if_neg e1, if_neg e1, if_pos rfl, if_neg (show ¬ (1 : Int32) = 0 by decide), ← hh1]
              exact stG_ff p q k _ 3
          · rw [if_neg e, if_neg e, failedM, faultedX, ← hh1]
            exact stG_ff p q k _ 2
    · rw [if_neg h3, if_neg (by decide), if_neg (by decide)]
      exact stG_f p q k _ 0
  · rw [if_neg h1, if_neg (by decide), if_neg (by decide)]
    exact stG_f p q k _ 0
end Ops
