/-! weights of a sheet; tell, name, as -/
section Ops
variable {SC : Ch → (Nat → Nat → Int32) → (Nat → Nat → Int64) → Prop} {h : Zh} {o : Nat → Nat} {L : Led} {n : Nat} {w : Nat → Wt} {S : Nat → Option Sh} {fa tr : Int32} {I : Nat → Nat → Int32} {J : Nat → Nat → Int64}
theorem stG_le {α : Type} {g1 g2 : Option (α × Zh)} {h1 : Zh} (e1 : zN h1 = zN h) (e2 : zS h1 = zS h) (hg : stG SC g1 g2 h1) : stG SC g1 g2 h := by
  obtain ⟨r, h', I', J', o', L', n', w', S', fa', tr', a1, a2, a3, a4, a5, a6, a7⟩ := hg
  exact ⟨r, h', I', J', o', L', n', w', S', fa', tr', a1, a2, a3, a4, a5, by omega, by omega⟩
/-- the reference tells no fault behind what it did -/
theorem stG_ref {g1 g2 : Option (Int32 × Zh)} (hg : stG SC g1 g2 h) (h0 : ∀ r h' I' J' (o' : Nat → Nat) L' n' w' S' fa' tr', g1 = some (r, h') → g2 = some (r, mH I' J') → stX SC h' o' L' n' w' S' fa' tr' → fa' = 0) : stG SC (zbI g1 (fun x h1 => some (x, h1))) (zbI g2 (fun x h2 => zbI (gX12_refused h2 0 x) (fun y h3 => some (y, h3)))) h := by
  obtain ⟨r, h', I', J', o', L', n', w', S', fa', tr', e1, e2, e3, e4, e5, e6⟩ := hg
  have hf := h0 r h' I' J' o' L' n' w' S' fa' tr' e1 e2 e3
  subst hf
  refine ⟨r, h', zU I' 0 0 0, J', o', L', n', w', S', 0, tr', by rw [e1]; rfl, by rw [e2]; rfl, e3, stM_f e5.1 0 e4, e5, e6⟩
theorem weightsOf_st (p : stX SC h o L n w S fa tr) (q : stM I L n w S fa tr) (k : stOk L n w S) (x1 x2 x3 x4 : Int32) : stG SC (gX11_weightsOf h 0 x1 x2 x3 x4) (gX12_weightsOf (mH I J) 0 x1 x2 x3 x4) h := by
  unfold gX11_weightsOf gX12_weightsOf
  have hj1 : gX12_weightsOf_J1 (mH I J) 0 = some (-2, mH (zU I 0 0 0) J) := rfl
  repeat (first | rw [noSheetX] | rw [noSheetM] | rw [zlt_] | rw [zjn_] | rw [zob_s] | rw [zg_1] | rw [zbi_s] | rw [zbI_s] | rw [zbr_s] | rw [zbR_s] | rw [zbV_s] | rw [zbj_s] | rw [zbJ_s] | rw [zcs_s] | rw [zcs_n])
  by_cases h2 : inR x2 4
  · rw [if_pos h2, if_pos rfl, if_pos rfl, noLaneX, in_R x3 2 3 rfl, zbi_s, zbi_s, zjn_, hj1]
    obtain ⟨c, hc, rfl⟩ := inR_f h2
    by_cases h3 : inR x3 3
    · rw [if_pos h3, if_pos h3, if_pos rfl, if_neg (show ¬ (1 : Int32) = 0 by decide), noKindX, in_R x1 2 3 rfl, zbi_s, zbi_s]
      obtain ⟨y, hy, rfl⟩ := inR_f h3
      by_cases h1 : inR x1 3
      · rw [if_pos h1, if_pos h1, if_pos rfl, if_neg (show ¬ (1 : Int32) = 0 by decide)]
        obtain ⟨kd, hkd, rfl⟩ := inR_f h1
        obtain ⟨⟨f0, f1, f2, f3⟩, -, ⟨l9, l10, -⟩, -⟩ := p.1
        have i1 : zin (nI c) (zL h 10) = true := by rw [l10]; exact zin_nI hc (by omega)
        have xc : zx (nI c) = c := zx_nI (by omega)
        have p' := stX_f 0 p
        have hK : ∀ x : Int32, gX11_weightsOf_J1 0 (zsI h 0 5 0) x = some (-10 - x, zsI (zsI h 0 5 0) 0 5 x) := fun x => rfl
        cases hS : S c with
        | none =>
          have r1 := (p.2.2.2.1 c hc).1 hS
          have d1 := (q.2.2.1 c hc).1 hS
          have hj2 : gX12_weightsOf_J2 (mH I J) 0 (nI kd) (nI c) x4 = some (-11, mH (zU I 0 0 1) J) := by
            unfold gX12_weightsOf_J2
            repeat (first | rw [mR_38] | rw [min_ (mL_30 _ _) hc (by omega)] | rw [xc] | rw [mI_] | rw [d1] | rw [zlt_] | rw [zjn_] | rw [zob_s] | rw [zg_1] | rw [zbi_s] | rw [zbI_s] | rw [zbr_s] | rw [zbR_s] | rw [zbV_s] | rw [zbj_s] | rw [zbJ_s] | rw [zcs_s] | rw [zcs_n])
            rw [if_neg (by decide)]
            rfl
          repeat (first | rw [zR_sI] | rw [zL_sI] | rw [f2] | rw [i1] | rw [xc] | rw [r1] | rw [mR_38] | rw [min_ (mL_30 _ _) hc (by omega)] | rw [mI_] | rw [d1] | rw [hj2] | rw [zlt_] | rw [zjn_] | rw [zob_s] | rw [zg_1] | rw [zbi_s] | rw [zbI_s] | rw [zbr_s] | rw [zbR_s] | rw [zbV_s] | rw [zbj_s] | rw [zbJ_s] | rw [zcs_s] | rw [zcs_n])
          rw [if_pos (show (-1 : Int32) < 0 by decide), show gX11_faultOf (zsI h 0 5 0) none (nI y) x4 3 = some 1 from rfl, zbi_s, zjn_, if_neg (by decide), hK]
          exact stG_ff p q k _ 1
        | some s =>
          obtain ⟨a, x, b1, b2, b3, b4, ⟨b5, b6⟩, b7, b8⟩ := (p'.2.2.2.1 c hc).2 s hS
          obtain ⟨d1, d2, d3⟩ := (q.2.2.1 c hc).2 s hS
          obtain ⟨s1, s2⟩ := k.2.2 c s hS
          have hlt : ¬ (nI s.2.1 : Int32) < 0 := nI_pos (by omega)
          have hge : (0 : Int32) ≤ nI s.2.1 := Int32.not_lt.mp hlt
          have b1' : zR h 10 c = some a := b1
          have hf := faultOf_s b4 b7 s2 b3 (nI y) x4 3
          have hb3 : gX12_isBeyond x4 3 (nI s.2.1) = some (if bey x4 3 s.2.1 then 0 else 1) := isBeyond_ok x4 3 s.2.1 s2
          repeat (first | rw [zR_sI] | rw [zL_sI] | rw [f2] | rw [i1] | rw [xc] | rw [b1'] | rw [mR_38] | rw [mR_39] | rw [min_ (mL_30 _ _) hc (by omega)] | rw [min_ (mL_31 _ _) hc (by omega)] | rw [mI_] | rw [d1] | rw [d2] | rw [if_neg hlt] | rw [hf] | rw [hK] | rw [zlt_] | rw [zjn_] | rw [zob_s] | rw [zg_1] | rw [zbi_s] | rw [zbI_s] | rw [zbr_s] | rw [zbR_s] | rw [zbV_s] | rw [zbj_s] | rw [zbJ_s] | rw [zcs_s] | rw [zcs_n])
          by_cases e : nI s.1 = nI y
          · rw [if_pos e, if_pos e]
            by_cases hb : bey x4 3 s.2.1
            · rw [if_pos hb, if_pos rfl]
              have c3 : (3 : Int32).toInt = 3 := rfl
              have hbb := hb.2.2
              rw [c3] at hbb
              obtain ⟨i, hi, rfl⟩ := inR_f (x := x4) (n := 61) (by have := hb.1; omega)
              rw [nI_int (by omega)] at hbb
              have ei1 : nI i + 1 = nI (i + 1) := (nI_sc i).symm
              have ei2 : nI i + 2 = nI (i + 2) := by rw [nI_o 2, nI_add]
              have z0 : zin (nI i) (zL h x) = true := by rw [show zL h x = s.2.1 from b7]; exact zin_nI (by omega) (by omega)
              have z1 : zin (nI (i + 1)) (zL h x) = true := by rw [show zL h x = s.2.1 from b7]; exact zin_nI (by omega) (by omega)
              have z2 : zin (nI (i + 2)) (zL h x) = true := by rw [show zL h x = s.2.1 from b7]; exact zin_nI (by omega) (by omega)
              have e60 : 60 * nI c + nI i = nI (60 * c + i) := by rw [nI_o 60, pk_mul, nI_add]
              have e61 : nI (60 * c + i) + 1 = nI (60 * c + (i + 1)) := (nI_sc _).symm
              have e62 : nI (60 * c + i) + 2 = nI (60 * c + (i + 2)) := by rw [nI_o 2, nI_add]; rfl
              have b4' : zR h a 1 = some x := b4
              have hj2 : gX12_weightsOf_J2 (mH I J) 0 (nI kd) (nI c) (nI i) = zbI (gX12_addWeights (mH I J) 0 (nI kd) (s.2.2 i) (s.2.2 (i + 1)) (s.2.2 (i + 2))) (fun x h2 => zbI (gX12_refused h2 0 x) (fun y h3 => some (y, h3))) := by
                unfold gX12_weightsOf_J2
                repeat (first | rw [mR_38] | rw [min_ (mL_30 _ _) hc (by omega)] | rw [xc] | rw [mI_] | rw [d1] | rw [if_pos hge] | rw [hb3] | rw [if_pos hb] | rw [if_pos (rfl : (0 : Int32) = 0)] | rw [e60] | rw [e61] | rw [e62] | rw [mR_40] | rw [min_ (mL_32 _ _) (show 60 * c + i < 240 by omega) (by omega)] | rw [min_ (mL_32 _ _) (show 60 * c + (i + 1) < 240 by omega) (by omega)] | rw [min_ (mL_32 _ _) (show 60 * c + (i + 2) < 240 by omega) (by omega)] | rw [zx_nI (show 60 * c + i < 2 ^ 31 by omega)] | rw [zx_nI (show 60 * c + (i + 1) < 2 ^ 31 by omega)] | rw [zx_nI (show 60 * c + (i + 2) < 2 ^ 31 by omega)] | rw [d3 i (by omega)] | rw [d3 (i + 1) (by omega)] | rw [d3 (i + 2) (by omega)] | rw [zlt_] | rw [zjn_] | rw [zob_s] | rw [zg_1] | rw [zbi_s] | rw [zbI_s] | rw [zbr_s] | rw [zbR_s] | rw [zbV_s] | rw [zbj_s] | rw [zbJ_s] | rw [zcs_s] | rw [zcs_n])
              have v0 := b8 i (by omega)
              have v1 := b8 (i + 1) (by omega)
              have v2 := b8 (i + 2) (by omega)
              rw [hj2]
              repeat (first | rw [zR_sI] | rw [zL_sI] | rw [b4'] | rw [z0] | rw [z1] | rw [z2] | rw [ei1] | rw [ei2] | rw [zx_nI (show i < 2 ^ 31 by omega)] | rw [zx_nI (show i + 1 < 2 ^ 31 by omega)] | rw [zx_nI (show i + 2 < 2 ^ 31 by omega)] | rw [v0] | rw [v1] | rw [v2] | rw [noWeightsX] | rw [zlt_] | rw [zjn_] | rw [zob_s] | rw [zg_1] | rw [zbi_s] | rw [zbI_s] | rw [zbr_s] | rw [zbR_s] | rw [zbV_s] | rw [zbj_s] | rw [zbJ_s] | rw [zcs_s] | rw [zcs_n])
              by_cases hC : is9 (s.2.2 i) ∧ is9 (s.2.2 (i + 1)) ∧ is9 (s.2.2 (i + 2))
              · rw [if_pos hC, if_pos rfl]
                have q0 := q
                by_cases hn : n < 6
                · obtain ⟨I', j1, j2⟩ := addW_M (J := J) q k.1 hn hkd hC.1 hC.2.1 hC.2.2
                  obtain ⟨h', o', y1, y2, y3⟩ := take_X p' hn hkd (s.2.2 i) (s.2.2 (i + 1)) (s.2.2 (i + 2))
                  rw [y1, j1, zbI_s, zbI_s, refusedM, zbI_s]
                  exact ⟨_, h', _, J, o', L, _, _, S, 0, tr, rfl, rfl, y2, stM_f k.1 0 j2, ⟨k.1, weiOk_U k.2.1 hn (wtN_ok hkd hC.1 hC.2.1 hC.2.2), k.2.2⟩, y3⟩
                · have hn6 : n = 6 := by have := k.2.1.1; omega
                  have w1 : zI (zsI h 0 5 0) 0 4 = nI n := p'.2.2.1.1
                  have w2 : I 0 19 = nI n := q.2.1.1
                  have t1 : gX11_take (zsI h 0 5 0) 0 (nI kd) (s.2.2 i) (s.2.2 (i + 1)) (s.2.2 (i + 2)) = some (-4, zsI h 0 5 0) := by
                    unfold gX11_take
                    rw [w1, hn6, if_neg (show ¬ nI 6 < (6 : Int32) from Int32.lt_irrefl)]
                  have t2 : gX12_addWeights (mH I J) 0 (nI kd) (s.2.2 i) (s.2.2 (i + 1)) (s.2.2 (i + 2)) = some (-4, mH I J) := by
                    unfold gX12_addWeights
                    rw [isWeightM, isWeightM, isWeightM, zbi_s, if_pos hC.1, if_neg (show ¬ (1 : Int32) = 0 by decide), if_pos hC.2.1, zbi_s, if_neg (show ¬ (1 : Int32) = 0 by decide), if_pos hC.2.2, zbi_s, if_neg (show ¬ (1 : Int32) = 0 by decide), mI_, w2, hn6, if_pos (show nI 6 = (6 : Int32) from rfl)]
                  rw [t1, t2, zbI_s, zbI_s, refusedM, zbI_s]
                  exact stG_f p q k _ 0
              · rw [if_neg hC, if_neg (by decide), addW_no _ _ hC, zbI_s, refusedM, zbI_s]
                exact stG_f p q k _ 0
            · have hj2 : gX12_weightsOf_J2 (mH I J) 0 (nI kd) (nI c) x4 = some (-13, mH (zU I 0 0 3) J) := by
                unfold gX12_weightsOf_J2
                repeat (first | rw [mR_38] | rw [min_ (mL_30 _ _) hc (by omega)] | rw [xc] | rw [mI_] | rw [d1] | rw [if_pos hge] | rw [hb3] | rw [zlt_] | rw [zjn_] | rw [zob_s] | rw [zg_1] | rw [zbi_s] | rw [zbI_s] | rw [zbr_s] | rw [zbR_s] | rw [zbV_s] | rw [zbj_s] | rw [zbJ_s] | rw [zcs_s] | rw [zcs_n])
                rw [if_neg hb, if_neg (by decide)]
                rfl
              rw [if_neg hb, if_neg (show ¬ (3 : Int32) = 0 by decide), hj2]
              exact stG_ff p q k _ 3
          · rw [if_neg e, if_neg e, if_neg (show ¬ (2 : Int32) = 0 by decide), failedM]
            exact stG_ff p q k _ 2
      · rw [if_neg h1, if_neg h1, if_neg (by decide), if_pos rfl]
        exact stG_f p q k _ 0
    · rw [if_neg h3, if_neg h3, if_neg (by decide), if_pos rfl]
      exact stG_f p q k _ 0
  · rw [if_neg h2, if_neg (by decide), if_neg (by decide), refusedM]
    exact stG_f p q k _ 0
/-- a step more of the trace -/
theorem stX_t (v : Int32) (p : stX SC h o L n w S fa tr) : stX SC (zsI h 11 0 v) o L n w S fa v := by
  obtain ⟨p1, p2, p3, p4, ⟨p5, p6⟩, p7, p8, p9⟩ := p
  have o11 : o 11 = 111 := p1.2.2.2.2.2.2.2.2.2.2
  have m : zMv (fun t => t = 111) h o (zsI h 11 0 v) o := zMv.sI o11
  obtain ⟨e0, -⟩ := p1.at m
  have f0 := e0 (by omega)
  exact ⟨p1.mv m (by omega) (by omega) (by omega) (by omega) (by omega) (by omega), p2.mv m p1 (by omega) (by omega) (by omega) (by omega), p3.mv m p1 (by omega) (by omega) (f0.2.2.1 4), p4.mv m p1 (by omega) (by omega) (fun k hk => by omega), ⟨(f0.2.2.1 5).trans p5, zI_se _ _ _ _⟩, p7.mv m (by omega) rfl, p8.mv m (by omega) rfl, p9.mv m (by omega) (by omega) rfl⟩
theorem stM_t (hL : ledOk L) (v : Int32) (q : stM I L n w S fa tr) : stM (zU I 0 42 v) L n w S fa v :=
  ⟨q.1.mv hL (fun b hb => zU_n _ _ _ _ _ _ (by omega)) (fun a b _ _ => zU_n _ _ _ _ _ _ (by omega)) (fun b => zU_n _ _ _ _ _ _ (by omega)), q.2.1.mv (zU_n _ _ _ _ _ _ (by omega)) (fun a b _ _ => zU_n _ _ _ _ _ _ (by omega)), q.2.2.1.mv (fun a b _ _ => zU_n _ _ _ _ _ _ (by omega)), (zU_n _ _ _ _ _ _ (by omega)).trans q.2.2.2.1, zU_e _ _ _ _⟩
theorem leave_ok (p : stX SC h o L n w S fa tr) (v : Int32) : gX9_leave h 11 v = some (zsI h 11 0 (31 * tr + v)) := by
  unfold gX9_leave
  rw [p.2.2.2.2.1.2]
  rfl
theorem traced_ok (q : stM I L n w S fa tr) (v : Int32) : gX12_traced (mH I J) 0 v = some (mH (zU I 0 42 (31 * tr + v)) J) := by
  unfold gX12_traced
  rw [mI_, q.2.2.2.2]
  rfl
theorem wtX.t {a c : Nat} {v : Wt} (o11 : o 11 = 111) (ha : frX h o a) (hx : wtX h a c v) (u : Int32) : wtX (zsI h 11 0 u) a c v := by
  have : ∀ j, zI (zsI h 11 0 u) a j = zI h a j := fun j => by
    rw [zI_s, if_neg (fun e => by have := ha.2; rw [e.1, o11] at this; omega)]
  exact ⟨hx.1, (this 0).trans hx.2.1, (this 1).trans hx.2.2.1, (this 2).trans hx.2.2.2.1, (this 3).trans hx.2.2.2.2⟩
theorem plain_ok {a c : Nat} (p : stX SC h o L n w S fa tr) (ha : frX h o a) {v : Wt} (hx : wtX h a c v) : gX4_plainTelling h a (some 11) = some (v.2.1, zsI h 11 0 (31 * tr + 1)) := by
  unfold gX4_plainTelling
  rw [zob_s, leave_ok p, zbV_s, (hx.t p.1.2.2.2.2.2.2.2.2.2.2 ha _).2.2.1]
theorem telling4_ok {a c : Nat} (p : stX SC h o L n w S fa tr) (ha : frX h o a) {v : Wt} (hv : wtOk v) (hx : wtX h a c v) : gX4_telling h a (some 11) = some (v.2.1, zsI h 11 0 (31 * tr + 1)) := by
  unfold gX4_telling gX4_telling_J1
  rw [zjn_, wtX_k hv hx, plain_ok p ha hx]
  simp only [ite_self]
  rfl
theorem telling10_ok {a c : Nat} (p : stX SC h o L n w S fa tr) (ha : frX h o a) {v : Wt} (hv : wtOk v) (hx : wtX h a c v) : gX10_telling h a (some 11) = some (v.2.1 + 100, zsI (zsI h 11 0 (31 * tr + 2)) 11 0 (31 * (31 * tr + 2) + 1)) := by
  have o11 : o 11 = 111 := p.1.2.2.2.2.2.2.2.2.2.2
  unfold gX10_telling
  rw [zob_s, leave_ok p, zbV_s, telling4_ok (stX_t _ p) ha hv (hx.t o11 ha _)]
  rfl
theorem telling7_ok {a c : Nat} (p : stX SC h o L n w S fa tr) (ha : frX h o a) {v : Wt} (hv : wtOk v) (h2 : v.1 = 2) (hx : wtX h a c v) : gX7_telling h a (some 11) = some (v.2.1 + 100 + v.2.1, zsI (zsI (zsI (zsI h 11 0 (31 * tr + 3)) 11 0 (31 * (31 * tr + 3) + 2)) 11 0 (31 * (31 * (31 * tr + 3) + 2) + 1)) 11 0 (31 * (31 * (31 * (31 * tr + 3) + 2) + 1) + 1)) := by
  have o11 : o 11 = 111 := p.1.2.2.2.2.2.2.2.2.2.2
  have p1 := stX_t (31 * tr + 3) p
  have x1 := hx.t o11 ha (31 * tr + 3)
  have p3 := stX_t (31 * (31 * (31 * tr + 3) + 2) + 1) (stX_t (31 * (31 * tr + 3) + 2) p1)
  have x3 : wtX (zsI (zsI (zsI h 11 0 (31 * tr + 3)) 11 0 (31 * (31 * tr + 3) + 2)) 11 0 (31 * (31 * (31 * tr + 3) + 2) + 1)) a c v := wtX.t (h := zsI (zsI h 11 0 (31 * tr + 3)) 11 0 (31 * (31 * tr + 3) + 2)) o11 ha (wtX.t (h := zsI h 11 0 (31 * tr + 3)) o11 ha x1 _) _
  unfold gX7_telling gX7_telling_J1
  rw [zob_s, leave_ok p, zbV_s, telling10_ok p1 ha hv x1, zbI_s, zjn_, wtX_k hv x3, h2, if_neg (by decide), if_neg (by decide), plain_ok p3 ha x3]
  rfl
theorem tell_st (p : stX SC h o L n w S fa tr) (q : stM I L n w S fa tr) (k : stOk L n w S) (x1 : Int32) : stG SC (gX11_tell h 0 x1) (gX12_tell (mH I J) 0 x1) h := by
  have hn := k.2.1.1
  unfold gX11_tell gX12_tell
  rw [noWeightsM q.2.1 hn, zbi_s]
  by_cases h1 : inR x1 n
  · rw [if_pos h1, if_pos rfl]
    obtain ⟨c, hc, rfl⟩ := inR_f h1
    obtain ⟨a, a1, a2, a3⟩ := weightsAt_s p hn hc
    have hv := k.2.1.2 c hc
    have hv3 := hv.1
    obtain ⟨d1, d2, d3, d4⟩ := q.2.1.2 c hc
    have f3 : zR h 0 3 = some 11 := p.1.1.2.2.2
    have hj : ∀ (I' : Nat → Nat → Int32), (∀ b, I' 15 b = I 15 b) → gX12_tell_J1 0 (nI c) (nI (w c).1) (mH I' J) = some (if (w c).1 = 0 then (w c).2.1 else if (w c).1 = 1 then (w c).2.1 + 100 else 2 * (w c).2.1 + 100, mH I' J) := by
      intro I' hI'
      unfold gX12_tell_J1
      repeat (first | rw [mR_21] | rw [min_ (mL_15 _ _) (show c < 6 by omega) (by omega)] | rw [zx_nI (show c < 2 ^ 31 by omega)] | rw [mI_] | rw [hI'] | rw [d2] | rw [zlt_] | rw [zjn_] | rw [zob_s] | rw [zg_1] | rw [zbi_s] | rw [zbI_s] | rw [zbr_s] | rw [zbR_s] | rw [zbV_s] | rw [zbj_s] | rw [zbJ_s] | rw [zcs_s] | rw [zcs_n])
      rcases (show (w c).1 = 0 ∨ (w c).1 = 1 ∨ (w c).1 = 2 by omega) with e | e | e <;> rw [e] <;> rfl
    have u15 : ∀ (I : Nat → Nat → Int32) (v : Int32) (b : Nat), zU I 0 42 v 15 b = I 15 b := fun I v b => zU_n _ _ _ _ _ _ (by omega)
    repeat (first | rw [a1] | rw [f3] | rw [mR_20] | rw [min_ (mL_14 _ _) (show c < 6 by omega) (by omega)] | rw [zx_nI (show c < 2 ^ 31 by omega)] | rw [mI_] | rw [d1] | rw [wtX_k hv a3] | rw [zlt_] | rw [zjn_] | rw [zob_s] | rw [zg_1] | rw [zbi_s] | rw [zbI_s] | rw [zbr_s] | rw [zbR_s] | rw [zbV_s] | rw [zbj_s] | rw [zbJ_s] | rw [zcs_s] | rw [zcs_n])
    unfold gX12_tell_J3 gX11_tell_J1
    rcases (show (w c).1 = 0 ∨ (w c).1 = 1 ∨ (w c).1 = 2 by omega) with e | e | e
    · rw [e] at hj ⊢
      have hj0 := hj (zU I 0 42 (31 * tr + 1)) (u15 _ _)
      rw [if_pos rfl, telling4_ok p a2 hv a3, if_neg (show ¬ nI 0 = 2 by decide), zbI_s, zjn_, if_pos (show nI 0 ≤ 0 by decide)]
      unfold gX12_tell_J2
      rw [traced_ok q, zbV_s, zjn_, if_neg (show ¬ nI 0 = 2 by decide), hj0, if_pos rfl]
      exact ⟨_, _, _, J, o, L, n, w, S, fa, _, rfl, rfl, stX_t _ p, stM_t k.1 _ q, k, stP_r h⟩
    · rw [e] at hj ⊢
      have q1 := stM_t k.1 (31 * tr + 2) q
      have hj0 := hj (zU (zU I 0 42 (31 * tr + 2)) 0 42 (31 * (31 * tr + 2) + 1)) (fun b => (u15 _ _ b).trans (u15 _ _ b))
      rw [if_neg (by decide), if_pos rfl, telling10_ok p a2 hv a3, if_neg (show ¬ nI 1 = 2 by decide), zbI_s, zjn_, if_neg (show ¬ nI 1 ≤ 0 by decide), traced_ok q, zbV_s]
      unfold gX12_tell_J2
      rw [traced_ok q1, zbV_s, zjn_, if_neg (show ¬ nI 1 = 2 by decide), hj0, if_neg (by decide), if_pos rfl]
      exact ⟨_, _, _, J, o, L, n, w, S, fa, _, rfl, rfl, stX_t _ (stX_t _ p), stM_t k.1 _ q1, k, stP_r h⟩
    · rw [e] at hj ⊢
      have q1 := stM_t k.1 (31 * tr + 3) q
      have q2 := stM_t k.1 (31 * (31 * tr + 3) + 2) q1
      have q3 := stM_t k.1 (31 * (31 * (31 * tr + 3) + 2) + 1) q2
      have hj0 := hj (zU (zU (zU (zU I 0 42 (31 * tr + 3)) 0 42 (31 * (31 * tr + 3) + 2)) 0 42 (31 * (31 * (31 * tr + 3) + 2) + 1)) 0 42 (31 * (31 * (31 * (31 * tr + 3) + 2) + 1) + 1)) (fun b => (u15 _ _ b).trans ((u15 _ _ b).trans ((u15 _ _ b).trans (u15 _ _ b))))
      rw [if_neg (by decide), if_neg (by decide), telling7_ok p a2 hv e a3, if_pos (show nI 2 = 2 from rfl), zbI_s, traced_ok q, zbV_s, zjn_, if_neg (show ¬ nI 2 ≤ 0 by decide), traced_ok q1, zbV_s]
      unfold gX12_tell_J2
      rw [traced_ok q2, zbV_s, zjn_, if_pos (show nI 2 = 2 from rfl), traced_ok q3, zbV_s, hj0, if_neg (by decide), if_neg (by decide), show (w c).2.1 + 100 + (w c).2.1 = 2 * (w c).2.1 + 100 by grind]
      exact ⟨_, _, _, J, o, L, n, w, S, fa, _, rfl, rfl, stX_t _ (stX_t _ (stX_t _ (stX_t _ p))), stM_t k.1 _ q3, k, stP_r h⟩
  · rw [if_neg h1, if_neg (by decide), weightsAt_n p hn x1 h1]
    exact stG_0 p q k _
theorem name_st (p : stX SC h o L n w S fa tr) (q : stM I L n w S fa tr) (k : stOk L n w S) (x1 : Int32) : stG SC (gX11_name h 0 x1) (gX12_name (mH I J) 0 x1) h := by
  have hn := k.2.1.1
  unfold gX11_name gX12_name
  rw [noWeightsM q.2.1 hn, zbi_s]
  by_cases h1 : inR x1 n
  · rw [if_pos h1, if_pos rfl]
    obtain ⟨c, hc, rfl⟩ := inR_f h1
    obtain ⟨a, a1, a2, a3⟩ := weightsAt_s p hn hc
    have hv := k.2.1.2 c hc
    have hv3 := hv.1
    have o11 : o 11 = 111 := p.1.2.2.2.2.2.2.2.2.2.2
    obtain ⟨d1, d2, d3, d4⟩ := q.2.1.2 c hc
    have f3 : zR h 0 3 = some 11 := p.1.1.2.2.2
    have u14 : ∀ (v : Int32) (b : Nat), zU I 0 42 v 14 b = I 14 b := fun v b => zU_n _ _ _ _ _ _ (by omega)
    have hj : ∀ v : Int32, gX12_name_J1 (mH I J) 0 (nI c) v = some (if (w c).1 = 2 then 60 else nI c, mH (zU I 0 42 (31 * tr + v)) J) := by
      intro v
      unfold gX12_name_J1
      repeat (first | rw [traced_ok q] | rw [mR_20] | rw [min_ (mL_14 _ _) (show c < 6 by omega) (by omega)] | rw [zx_nI (show c < 2 ^ 31 by omega)] | rw [mI_] | rw [u14] | rw [d1] | rw [zlt_] | rw [zjn_] | rw [zob_s] | rw [zg_1] | rw [zbi_s] | rw [zbI_s] | rw [zbr_s] | rw [zbR_s] | rw [zbV_s] | rw [zbj_s] | rw [zbJ_s] | rw [zcs_s] | rw [zcs_n])
      rcases (show (w c).1 = 0 ∨ (w c).1 = 1 ∨ (w c).1 = 2 by omega) with e | e | e <;> rw [e] <;> rfl
    have n4 : gX4_naming h a (some 11) = some (nI c, zsI h 11 0 (31 * tr + 4)) := by
      unfold gX4_naming
      rw [zob_s, leave_ok p, zbV_s, (a3.t o11 a2 _).2.1]
    have n7 : gX7_naming h a (some 11) = some (60, zsI h 11 0 (31 * tr + 5)) := by
      unfold gX7_naming
      rw [zob_s, leave_ok p, zbV_s]
    repeat (first | rw [a1] | rw [f3] | rw [n4] | rw [n7] | rw [mR_20] | rw [min_ (mL_14 _ _) (show c < 6 by omega) (by omega)] | rw [zx_nI (show c < 2 ^ 31 by omega)] | rw [mI_] | rw [d1] | rw [wtX_k hv a3] | rw [hj] | rw [zlt_] | rw [zjn_] | rw [zob_s] | rw [zg_1] | rw [zbi_s] | rw [zbI_s] | rw [zbr_s] | rw [zbR_s] | rw [zbV_s] | rw [zbj_s] | rw [zbJ_s] | rw [zcs_s] | rw [zcs_n])
    unfold gX11_name_J1
    rcases (show (w c).1 = 0 ∨ (w c).1 = 1 ∨ (w c).1 = 2 by omega) with e | e | e
    · rw [e]
      exact ⟨_, _, _, J, o, L, n, w, S, fa, _, rfl, rfl, stX_t _ p, stM_t k.1 _ q, k, stP_r h⟩
    · rw [e]
      exact ⟨_, _, _, J, o, L, n, w, S, fa, _, rfl, rfl, stX_t _ p, stM_t k.1 _ q, k, stP_r h⟩
    · rw [e]
      exact ⟨_, _, _, J, o, L, n, w, S, fa, _, rfl, rfl, stX_t _ p, stM_t k.1 _ q, k, stP_r h⟩
  · rw [if_neg h1, if_neg (by decide), weightsAt_n p hn x1 h1]
    exact stG_0 p q k _
theorem as_st (p : stX SC h o L n w S fa tr) (q : stM I L n w S fa tr) (k : stOk L n w S) (x1 x2 : Int32) : stG SC (gX11_as h 0 x1 x2) (gX12_as (mH I J) 0 x1 x2) h := by
  have hn := k.2.1.1
  have p' := stX_f 0 p
  unfold gX11_as gX12_as
  rw [noWeightsM q.2.1 hn, zbi_s, zlt_]
  by_cases h1 : inR x1 n
  · rw [if_pos h1, if_pos rfl]
    obtain ⟨c, hc, rfl⟩ := inR_f h1
    obtain ⟨a, a1, a2, a3⟩ := weightsAt_s p' hn hc
    have hv := k.2.1.2 c hc
    have hv3 := hv.1
    obtain ⟨d1, d2, d3, d4⟩ := q.2.1.2 c hc
    rw [a1, zbr_s, zcs_s, noKindX, zbi_s, in_R x2 2 3 rfl, zbi_s]
    by_cases h2 : inR x2 3
    · rw [if_pos h2, if_pos h2, if_pos rfl, if_neg (show ¬ (1 : Int32) = 0 by decide)]
      obtain ⟨y, hy, rfl⟩ := inR_f h2
      repeat (first | rw [mR_20] | rw [min_ (mL_14 _ _) (show c < 6 by omega) (by omega)] | rw [zx_nI (show c < 2 ^ 31 by omega)] | rw [mI_] | rw [d1] | rw [refusedM] | rw [failedM] | rw [zlt_] | rw [zjn_] | rw [zob_s] | rw [zg_1] | rw [zbi_s] | rw [zbI_s] | rw [zbr_s] | rw [zbR_s] | rw [zbV_s] | rw [zbj_s] | rw [zbJ_s] | rw [zcs_s] | rw [zcs_n])
      unfold gX11_as_J4 gX11_as_J3 gX11_as_J2 gX11_as_J1
      have hz1 : zio (zsI h 0 5 0) (some a) [10, 7] = if (w c).1 = 0 then 0 else 1 := by
        show (if zK (zsI h 0 5 0) a ∈ [10, 7] then (1 : Int32) else 0) = _
        rw [a3.1]
        rcases (show (w c).1 = 0 ∨ (w c).1 = 1 ∨ (w c).1 = 2 by omega) with e | e | e <;> rw [e] <;> rfl
      have hz2 : zio (zsI h 0 5 0) (some a) [7] = if (w c).1 = 2 then 1 else 0 := by
        show (if zK (zsI h 0 5 0) a ∈ [7] then (1 : Int32) else 0) = _
        rw [a3.1]
        rcases (show (w c).1 = 0 ∨ (w c).1 = 1 ∨ (w c).1 = 2 by omega) with e | e | e <;> rw [e] <;> rfl
      rw [hz1, hz2]
      rcases (show (w c).1 = 0 ∨ (w c).1 = 1 ∨ (w c).1 = 2 by omega) with e | e | e <;> rw [e] <;> rcases (show y = 0 ∨ y = 1 ∨ y = 2 by omega) with rfl | rfl | rfl
      · exact stG_f p q k _ 0
      · exact stG_ff p q k _ 2
      · exact stG_ff p q k _ 2
      · exact stG_f p q k _ 0
      · exact stG_f p q k _ 0
      · exact stG_ff p q k _ 2
      · exact stG_f p q k _ 0
      · exact stG_f p q k _ 0
      · exact stG_f p q k _ 0
    · rw [if_neg h2, if_neg h2, if_neg (by decide), if_pos rfl, refusedM, zbI_s]
      exact stG_f p q k _ 0
  · rw [if_neg h1, if_neg (by decide), weightsAt_n p' hn x1 h1, refusedM]
    exact stG_f p q k _ 0
end Ops
