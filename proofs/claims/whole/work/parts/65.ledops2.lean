/-! undo, redo, clear, words, word, and what is read -/
section Ops
variable {SC : Ch → (Nat → Nat → Int32) → (Nat → Nat → Int64) → Prop} {h : Zh} {o : Nat → Nat} {L : Led} {n : Nat} {w : Nat → Wt} {S : Nat → Option Sh} {fa tr : Int32} {I : Nat → Nat → Int32} {J : Nat → Nat → Int64}
theorem take_st {t : Nat} (hL : ledOk L) (ht : t ≤ L.2.2.2) (q : stM I L n w S fa tr) : stM (mtake (zU I 0 37 (nI t)) t) (L.1, L.2.1, t, L.2.2.2) n w S fa tr := by
  obtain ⟨q1, q2, q3, q4, q5⟩ := q
  have hm : ∀ a b, ¬ (a = 0 ∧ 1 ≤ b ∧ b ≤ 4) → ¬ (23 ≤ a ∧ a ≤ 26) → ¬ (a = 0 ∧ b = 37) → mtake (zU I 0 37 (nI t)) t a b = I a b := fun a b n1 n2 n3 => (mtake_o _ _ _ _ n1 n2).trans (zU_n _ _ _ _ _ _ n3)
  exact ⟨take_led hL q1.1 ht, q2.mv (hm _ _ (by omega) (by omega) (by omega)) (fun a b _ _ => hm _ _ (by omega) (by omega) (by omega)), q3.mv (fun a b _ _ => hm _ _ (by omega) (by omega) (by omega)), (hm _ _ (by omega) (by omega) (by omega)).trans q4, (hm _ _ (by omega) (by omega) (by omega)).trans q5⟩
theorem go_X {t : Nat} (ht : t ≤ L.2.2.2) (p : stX SC h o L n w S fa tr) : stX SC (zsI h 1 2 (nI t)) o (L.1, L.2.1, t, L.2.2.2) n w S fa tr := by
  have o1 : o 1 = 101 := p.1.2.2.2.2.2.1
  have m : zMv ldT h o (zsI h 1 2 (nI t)) o := zMv.sI (by rw [o1]; exact Or.inl rfl)
  refine stX_led m rfl rfl rfl rfl ⟨⟨zI_se _ _ _ _, ?_⟩, fun j hj => ?_⟩ p
  · rw [zI_s, if_neg (by omega)]
    exact p.2.1.1.2
  · obtain ⟨⟨c, c1, c2⟩, c3⟩ := p.2.1.2 j hj
    refine ⟨⟨c, c1, c2.mv m (by simp [ldT])⟩, fun i hi => ?_⟩
    obtain ⟨b, b1, b2⟩ := c3 i hi
    exact ⟨b, b1, b2.mv m (by simp [ldT])⟩
theorem go_ok {t : Nat} (ht : t ≤ L.2.2.2) (k : stOk L n w S) : stOk (L.1, L.2.1, t, L.2.2.2) n w S := ⟨⟨ht, k.1.2.1, k.1.2.2⟩, k.2.1, k.2.2⟩
theorem undo_st (p : stX SC h o L n w S fa tr) (q : stM I L n w S fa tr) (k : stOk L n w S) : stG SC (gX11_undo h 0) (gX12_undo (mH I J) 0) h := by
  have hL := k.1
  have ht : L.2.2.1 ≤ 20 := Nat.le_trans hL.1 hL.2.1
  have f0 : zR h 0 0 = some 1 := p.1.1.1
  have e2 : zI h 1 2 = nI L.2.2.1 := p.2.1.1.1
  have e37 : I 0 37 = nI L.2.2.1 := q.1.1.1
  unfold gX11_undo gX12_undo gX2_back
  rw [zlt_, f0, zob_s, e2, mI_, e37]
  by_cases h0 : L.2.2.1 = 0
  · rw [h0, if_pos (show nI 0 = 0 from rfl), if_pos (show nI 0 = 0 from rfl), zbI_s, if_pos rfl]
    exact stG_0 p q k _
  · obtain ⟨t, et⟩ : ∃ t, L.2.2.1 = t + 1 := ⟨L.2.2.1 - 1, by omega⟩
    have hne : ¬ nI L.2.2.1 = 0 := fun hh => h0 ((nI_inj (b := 0) (by omega) (by omega)).mp hh)
    have em : nI L.2.2.1 - 1 = nI t := by rw [et, nI_sc]; grind
    have htl : t ≤ L.2.2.2 := by have := hL.1; omega
    rw [if_neg hne, if_neg hne, zlt_, em, zbI_s, if_neg (by decide), zlt_]
    unfold gX2_undoable
    rw [zR_sI, f0, zob_s, zI_se, zbi_s, zlt_, msI, takeSnap_ok _ J t (by omega) (zU_e _ _ _ _), zbV_s, mI_, mtake_o _ _ _ _ (by omega) (by omega), zU_e]
    exact ⟨_, _, _, J, o, _, n, w, S, fa, tr, rfl, rfl, go_X htl p, take_st hL htl q, go_ok htl k, stP_r h⟩
theorem redo_st (p : stX SC h o L n w S fa tr) (q : stM I L n w S fa tr) (k : stOk L n w S) : stG SC (gX11_redo h 0) (gX12_redo (mH I J) 0) h := by
  have hL := k.1
  have ht : L.2.2.1 ≤ 20 := Nat.le_trans hL.1 hL.2.1
  have hl : L.2.2.2 ≤ 20 := hL.2.1
  have f0 : zR h 0 0 = some 1 := p.1.1.1
  have e2 : zI h 1 2 = nI L.2.2.1 := p.2.1.1.1
  have e3 : zI h 1 3 = nI L.2.2.2 := p.2.1.1.2
  have e37 : I 0 37 = nI L.2.2.1 := q.1.1.1
  have e36 : I 0 36 = nI (L.2.2.2 + 1) := q.1.1.2.1
  unfold gX11_redo gX12_redo gX2_forth
  rw [zlt_, f0, zob_s, e2, e3, mI_, e37, mI_, e36, ← nI_sc]
  by_cases h0 : L.2.2.1 < L.2.2.2
  · have hne : ¬ nI (L.2.2.1 + 1) = nI (L.2.2.2 + 1) := fun hh => by
      have := (nI_inj (by omega) (by omega)).mp hh
      omega
    have htl : L.2.2.1 + 1 ≤ L.2.2.2 := h0
    rw [if_pos (nI_lt h0 (by omega)), if_neg hne, zlt_, zbI_s, if_neg (by decide), zlt_]
    unfold gX2_undoable
    rw [zR_sI, f0, zob_s, zI_se, zbi_s, zlt_, msI, takeSnap_ok _ J (L.2.2.1 + 1) (by omega) (zU_e _ _ _ _), zbV_s, mI_, mtake_o _ _ _ _ (by omega) (by omega), zU_e]
    exact ⟨_, _, _, J, o, _, n, w, S, fa, tr, rfl, rfl, go_X htl p, take_st hL htl q, go_ok htl k, stP_r h⟩
  · have he : L.2.2.1 = L.2.2.2 := by have := hL.1; omega
    rw [if_neg (fun hh => by rw [he] at hh; exact Int32.lt_irrefl hh), he, if_pos rfl, zbI_s, if_pos rfl]
    exact stG_0 p q k _
theorem sumNow_ok (hL : ledOk L) (p : stX SC h o L n w S fa tr) {k : Nat} (hk : k < 4) : ∃ a, gX2_sumNow h 1 (nI k) = some (some a) ∧ sumX h o a (L.2.1 L.2.2.1 k) := by
  have ht : L.2.2.1 ≤ 20 := Nat.le_trans hL.1 hL.2.1
  obtain ⟨a, a1, a2⟩ := (p.2.1.2 L.2.2.1 hL.1).2 k hk
  refine ⟨a, ?_, a2⟩
  obtain ⟨r0, r1, l3, l4⟩ := p.1.2.1
  have e2 : zI h 1 2 = nI L.2.2.1 := p.2.1.1.1
  have e4 : nI L.2.2.1 * 4 + nI k = nI (4 * L.2.2.1 + k) := by rw [nI_o 4, pk_mul, nI_add, Nat.mul_comm]
  have e6 : zin (nI (4 * L.2.2.1 + k)) (zL h 4) = true := by rw [l4]; exact zin_nI (by omega) (by omega)
  unfold gX2_sumNow
  repeat (first | rw [r1] | rw [e2] | rw [e4] | rw [e6] | rw [zx_nI (show 4 * L.2.2.1 + k < 2 ^ 31 by omega)] | rw [a1] | rw [zlt_] | rw [zjn_] | rw [zob_s] | rw [zg_1] | rw [zbi_s] | rw [zbI_s] | rw [zbr_s] | rw [zbR_s] | rw [zbV_s] | rw [zbj_s] | rw [zbJ_s] | rw [zcs_s] | rw [zcs_n])
theorem count_okX {a : Nat} {l : List Wd} (hs : sumX h o a l) : gX8_count h a = some (nI l.length) := by
  obtain ⟨-, x, y, z, ⟨r0, -⟩, -, ⟨lx, -⟩, -⟩ := hs
  unfold gX8_count
  rw [zlt_, r0, zob_s, lx]
  rfl
theorem wdOk_nil : wdOk [] := ⟨Nat.zero_le _, List.Pairwise.nil, fun w hw => by cases hw⟩
theorem ofNone_ok (h : Zh) (o : Nat → Nat) : ∃ h' o', gX8_ofNone h = some (some (zN h), h') ∧ zMv (fun _ => False) h o h' o' ∧ sumX h' o' (zN h) [] ∧ zN h' = zN h + 4 ∧ zS h' = zS h + 3 := by
  have z0 : zok 0 = true := by decide
  have x0 : zx 0 = 0 := by decide
  let o4 : Nat → Nat := fun a => if zN h ≤ a then 1 else o a
  refine ⟨_, o4, by unfold gX8_ofNone gX8_init; repeat (first | rw [z0] | rw [x0] | rw [zlt_] | rw [zjn_] | rw [zob_s] | rw [zg_1] | rw [zbi_s] | rw [zbI_s] | rw [zbr_s] | rw [zbR_s] | rw [zbV_s] | rw [zbj_s] | rw [zbJ_s] | rw [zcs_s] | rw [zcs_n]), ⟨?_, fun a ha => if_neg (by omega), fun a ha _ => ?_⟩, ⟨⟨?_, if_pos (Nat.le_refl _)⟩, zN h + 1, zN h + 2, zN h + 3, ⟨?_, ?_, ?_⟩, ⟨⟨?_, if_pos (by omega)⟩, ⟨?_, if_pos (by omega)⟩, ⟨?_, if_pos (by omega)⟩⟩, ⟨?_, ?_, ?_⟩, fun i w hw => by cases hw⟩, ?_, ?_⟩
  · show zN h ≤ zN h + 4
    omega
  · have m : zMv (fun _ => False) h o (zA (zA (zA (zA h 8 3) 20 0) 20 0) 20 0) (oA (zA (zA (zA h 8 3) 20 0) 20 0) (oA (zA (zA h 8 3) 20 0) (oA (zA h 8 3) (oA h o 1) 1) 1) 1) := (((zMv.A 1).tr (zMv.A 1)).tr (zMv.A 1)).tr (zMv.A 1)
    exact (((m.nR (Nat.le_refl _)).nR (Nat.le_refl _)).nR (Nat.le_refl _)).2.2 a ha (fun hh => hh)
  · show zN h < zN h + 4
    omega
  · simp [zR_s, zA_N]
  · simp [zR_s, zA_N]
  · simp [zR_s, zA_N]
  · show zN h + 1 < zN h + 4
    omega
  · show zN h + 2 < zN h + 4
    omega
  · show zN h + 3 < zN h + 4
    omega
  · show zL (zA (zA (zA (zA h 8 3) 20 0) 20 0) 20 0) (zN h + 1) = 0
    rw [zA_L (by rw [zA_N, zA_N, zA_N]; omega), zA_L (by rw [zA_N, zA_N]; omega)]
    exact zA_Ln (zA h 8 3) 20 0
  · show zL (zA (zA (zA (zA h 8 3) 20 0) 20 0) 20 0) (zN h + 2) = 0
    rw [zA_L (by rw [zA_N, zA_N, zA_N]; omega)]
    exact zA_Ln (zA (zA h 8 3) 20 0) 20 0
  · exact zA_Ln (zA (zA (zA h 8 3) 20 0) 20 0) 20 0
  · rfl
  · rfl
theorem clear_st (p : stX SC h o L n w S fa tr) (q : stM I L n w S fa tr) (k : stOk L n w S) (x1 : Int32) : stG SC (gX11_clear h 0 x1) (gX12_clear (mH I J) 0 x1) h := by
  unfold gX11_clear gX12_clear
  rw [noSumX, zbi_s, noSumM, zbi_s]
  have hL := k.1
  have ht : L.2.2.1 ≤ 20 := Nat.le_trans hL.1 hL.2.1
  by_cases h1 : inR x1 4
  · rw [if_pos h1, if_pos rfl, if_pos rfl]
    obtain ⟨c, hc, rfl⟩ := inR_f h1
    have f0 : zR h 0 0 = some 1 := p.1.1.1
    obtain ⟨a, a1, a2⟩ := sumNow_ok hL p hc
    obtain ⟨h', o', g1, m1, g2, g3, g4⟩ := ofNone_ok h o
    have p1 := stX_new m1 p
    obtain ⟨h2, g5, p2, m2, ⟨z1, z2⟩, z3⟩ := recS_X hL p1 hc g2
    obtain ⟨d1, d2⟩ := q.1.2.2 c hc
    have xc : zx (nI c) = c := zx_nI (by omega)
    have hcur : curM (zU I 23 c 0) (L.1 L.2.2.1) (fun i => if i = c then [] else L.2.1 L.2.2.1 i) := by
      obtain ⟨⟨b0, b1, b2, b3⟩, b4⟩ := q.1.2
      have ho : ∀ a b, ¬ (a = 23 ∧ b = c) → zU I 23 c 0 a b = I a b := fun a b hab => zU_n _ _ _ _ _ _ hab
      refine ⟨⟨(ho _ _ (by omega)).trans b0, (ho _ _ (by omega)).trans b1, (ho _ _ (by omega)).trans b2, (ho _ _ (by omega)).trans b3⟩, fun i hi => ?_⟩
      show sumM (zU I 23 c 0) i (if i = c then [] else L.2.1 L.2.2.1 i)
      by_cases hic : i = c
      · rw [if_pos hic, hic]
        exact ⟨zU_e _ _ _ _, fun j w hw => by cases hw⟩
      · rw [if_neg hic]
        obtain ⟨c1, c2⟩ := b4 i hi
        refine ⟨(ho _ _ (by omega)).trans c1, fun j w hw => ?_⟩
        obtain ⟨e1, e2, e3⟩ := c2 j w hw
        exact ⟨(ho _ _ (by omega)).trans e1, (ho _ _ (by omega)).trans e2, (ho _ _ (by omega)).trans e3⟩
    have hs : ∀ i, i < 4 → wdOk (if i = c then [] else L.2.1 L.2.2.1 i) := fun i hi => by
      by_cases hic : i = c
      · rw [if_pos hic]; exact wdOk_nil
      · rw [if_neg hic]; exact (hL.2.2 _ hL.1).2 i hi
    have q2 := acted_st (c' := L.1 L.2.2.1) (s' := fun i => if i = c then [] else L.2.1 L.2.2.1 i) hL (hL.2.2 _ hL.1).1 hs (zU I 23 c 0) (fun a b n1 n2 n3 => zU_n _ _ _ _ _ _ (by omega)) hcur q
    repeat (first | rw [f0] | rw [a1] | rw [count_okX a2] | rw [g1] | rw [g5] | rw [mR_29] | rw [min_ (mL_23 _ _) (show c < 5 by omega) (by omega)] | rw [xc] | rw [mI_] | rw [d1] | rw [msI] | rw [acted_ok (zU I 23 c 0) J L.2.2.1 ht ((zU_n _ _ _ _ _ _ (by omega)).trans q.1.1.1)] | rw [zlt_] | rw [zjn_] | rw [zob_s] | rw [zg_1] | rw [zbi_s] | rw [zbI_s] | rw [zbr_s] | rw [zbR_s] | rw [zbV_s] | rw [zbj_s] | rw [zbJ_s] | rw [zcs_s] | rw [zcs_n])
    refine ⟨_, h2, _, J, _, _, n, w, S, fa, tr, rfl, rfl, p2, q2, ⟨recL_ok hL (hL.2.2 _ hL.1).1 hs, k.2.1, k.2.2⟩, ?_⟩
    exact ⟨by omega, by omega⟩
  · rw [if_neg h1, if_neg (by decide), if_neg (by decide)]
    exact stG_0 p q k _
theorem words_st (p : stX SC h o L n w S fa tr) (q : stM I L n w S fa tr) (k : stOk L n w S) (x1 : Int32) : ∃ r, gX11_words h 0 x1 = some r ∧ gX12_words (mH I J) 0 x1 = some r := by
  unfold gX11_words gX12_words
  rw [noSumX, zbi_s, noSumM, zbi_s]
  by_cases h1 : inR x1 4
  · rw [if_pos h1, if_pos rfl, if_pos rfl]
    obtain ⟨c, hc, rfl⟩ := inR_f h1
    have f0 : zR h 0 0 = some 1 := p.1.1.1
    obtain ⟨a, a1, a2⟩ := sumNow_ok k.1 p hc
    obtain ⟨d1, d2⟩ := q.1.2.2 c hc
    repeat (first | rw [f0] | rw [a1] | rw [count_okX a2] | rw [mR_29] | rw [min_ (mL_23 _ _) (show c < 5 by omega) (by omega)] | rw [zx_nI (show c < 2 ^ 31 by omega)] | rw [mI_] | rw [d1] | rw [zlt_] | rw [zjn_] | rw [zob_s] | rw [zg_1] | rw [zbi_s] | rw [zbI_s] | rw [zbr_s] | rw [zbR_s] | rw [zbV_s] | rw [zbj_s] | rw [zbJ_s] | rw [zcs_s] | rw [zcs_n])
    exact ⟨_, rfl, rfl⟩
  · rw [if_neg h1, if_neg (by decide), if_neg (by decide)]
    exact ⟨_, rfl, rfl⟩
theorem in_len {m : Nat} (hm : m ≤ 60) (x : Int32) : gX12_in x.toInt64 0 ((nI m).toInt64 - 1) = some (if inR x m then 1 else 0) := by
  apply in_R
  rw [Int64.toInt_sub, Int32.toInt_toInt64, nI_int (by omega), show (1 : Int64).toInt = 1 from rfl, Int.bmod_eq_of_le (by omega) (by omega)]
  omega
theorem word_st (p : stX SC h o L n w S fa tr) (q : stM I L n w S fa tr) (k : stOk L n w S) (x1 x2 x3 : Int32) : ∃ r, gX11_word h 0 x1 x2 x3 = some r ∧ gX12_word (mH I J) 0 x1 x2 x3 = some r := by
  unfold gX11_word gX12_word
  rw [noSumX, zbi_s, noSumM, zbi_s, zjn_]
  have hj : gX12_word_J1 = some (-9223372036854775808) := rfl
  rw [hj]
  by_cases h1 : inR x1 4
  · rw [if_pos h1, if_pos rfl, if_pos rfl]
    obtain ⟨c, hc, rfl⟩ := inR_f h1
    have f0 : zR h 0 0 = some 1 := p.1.1.1
    obtain ⟨a, a1, a2⟩ := sumNow_ok k.1 p hc
    obtain ⟨d1, d2⟩ := q.1.2.2 c hc
    have hl : (L.2.1 L.2.2.1 c).length ≤ 60 := ((k.1.2.2 _ k.1.1).2 c hc).1
    obtain ⟨-, x, y, z, ⟨r0, r1, r2⟩, -, ⟨lx, ly, lz⟩, hw⟩ := id a2
    repeat (first | rw [f0] | rw [a1] | rw [count_okX a2] | rw [mR_29] | rw [min_ (mL_23 _ _) (show c < 5 by omega) (by omega)] | rw [zx_nI (show c < 2 ^ 31 by omega)] | rw [mI_] | rw [d1] | rw [in_len hl] | rw [zlt_] | rw [zjn_] | rw [zob_s] | rw [zg_1] | rw [zbi_s] | rw [zbI_s] | rw [zbr_s] | rw [zbR_s] | rw [zbV_s] | rw [zbj_s] | rw [zbJ_s] | rw [zcs_s] | rw [zcs_n])
    have hif : ∀ (u v : Option Int64), (if x2 < 0 then v else if x2 < nI (L.2.1 L.2.2.1 c).length then u else v) = if inR x2 (L.2.1 L.2.2.1 c).length then u else v := fun u v => rng_if x2 _ _ (nI_int (by omega)) u v
    rw [hif]
    by_cases h2 : inR x2 (L.2.1 L.2.2.1 c).length
    · rw [if_pos h2, if_pos h2, if_neg (show ¬ (1 : Int32) = 0 by decide)]
      obtain ⟨i, hi, rfl⟩ := inR_f h2
      have hg : (L.2.1 L.2.2.1 c)[i]? = some ((L.2.1 L.2.2.1 c)[i]) := List.getElem?_eq_getElem hi
      obtain ⟨w1, w2, w3⟩ := hw i _ hg
      obtain ⟨v1, v2, v3⟩ := d2 i _ hg
      have e60 : 60 * nI c + nI i = nI (60 * c + i) := by rw [nI_o 60, pk_mul, nI_add]
      have ix : zin (nI i) (zL h x) = true := by rw [lx]; exact zin_nI hi (by omega)
      have iy : zin (nI i) (zL h y) = true := by rw [ly]; exact zin_nI hi (by omega)
      have iz : zin (nI i) (zL h z) = true := by rw [lz]; exact zin_nI hi (by omega)
      have gi : ∀ (u0 u1 u2 u3 u4 v0 v1 v2 v3 : Option Int64), u0 = v0 → u1 = v1 → u2 = v2 → u3 = v3 → (∃ r, u0 = some r) → (∃ r, u1 = some r) → (∃ r, u2 = some r) → (∃ r, u3 = some r) → (∃ r, u4 = some r) → ∃ r, (if x3 = 0 then u0 else if x3 = 1 then u1 else if x3 = 2 then u2 else if x3 = 3 then u3 else u4) = some r ∧ (if x3 = 0 then v0 else if x3 = 1 then v1 else if x3 = 2 then v2 else if x3 = 3 then v3 else u4) = some r := by
        intro u0 u1 u2 u3 u4 v0 v1 v2 v3 e0 e1 e2 e3 n0 n1 n2 n3 n4
        subst e0 e1 e2 e3
        split
        · obtain ⟨r, hr⟩ := n0; exact ⟨r, hr, hr⟩
        · split
          · obtain ⟨r, hr⟩ := n1; exact ⟨r, hr, hr⟩
          · split
            · obtain ⟨r, hr⟩ := n2; exact ⟨r, hr, hr⟩
            · split
              · obtain ⟨r, hr⟩ := n3; exact ⟨r, hr, hr⟩
              · obtain ⟨r, hr⟩ := n4; exact ⟨r, hr, hr⟩
      repeat (first | rw [e60] | rw [r0] | rw [r1] | rw [r2] | rw [ix] | rw [iy] | rw [iz] | rw [zx_nI (show i < 2 ^ 31 by omega)] | rw [zx_nI (show 60 * c + i < 2 ^ 31 by omega)] | rw [w1] | rw [w2] | rw [w3] | rw [mR_30] | rw [mR_31] | rw [mR_32] | rw [min_ (mL_24 _ _) (show 60 * c + i < 300 by omega) (by omega)] | rw [min_ (mL_25 _ _) (show 60 * c + i < 300 by omega) (by omega)] | rw [min_ (mL_26 _ _) (show 60 * c + i < 300 by omega) (by omega)] | rw [mI_] | rw [v1] | rw [v2] | rw [v3] | rw [zlt_] | rw [zjn_] | rw [zob_s] | rw [zg_1] | rw [zbi_s] | rw [zbI_s] | rw [zbr_s] | rw [zbR_s] | rw [zbV_s] | rw [zbj_s] | rw [zbJ_s] | rw [zcs_s] | rw [zcs_n])
      exact gi _ _ _ _ _ _ _ _ _ rfl rfl rfl rfl ⟨_, rfl⟩ ⟨_, rfl⟩ ⟨_, rfl⟩ ⟨_, rfl⟩ ⟨_, rfl⟩
    · rw [if_neg h2, if_neg h2, if_pos rfl]
      exact ⟨_, rfl, rfl⟩
  · rw [if_neg h1, if_neg (by decide), if_neg (by decide)]
    exact ⟨_, rfl, rfl⟩
theorem trace_st (p : stX SC h o L n w S fa tr) (q : stM I L n w S fa tr) : ∃ r, gX11_trace h 0 = some r ∧ gX12_trace (mH I J) 0 = some r := by
  refine ⟨tr, ?_, ?_⟩
  · unfold gX11_trace
    rw [zlt_, p.1.1.2.2.2, zob_s, p.2.2.2.2.1.2]
  · unfold gX12_trace
    rw [mI_, q.2.2.2.2]
theorem fault_st (p : stX SC h o L n w S fa tr) (q : stM I L n w S fa tr) : ∃ r, gX11_fault h 0 = some r ∧ gX12_fault (mH I J) 0 = some r := by
  refine ⟨fa, ?_, ?_⟩
  · unfold gX11_fault
    rw [p.2.2.2.2.1.1]
  · unfold gX12_fault
    rw [mI_, q.2.2.2.1]
theorem mc_st (q : stM I L n w S fa tr) : mcAt (mH I J) (L.1 L.2.2.1).1 (L.1 L.2.2.1).2.1 (L.1 L.2.2.1).2.2.1 (L.1 L.2.2.1).2.2.2 := q.1.2.1
theorem cn_st (p : stX SC h o L n w S fa tr) (hL : ledOk L) : ∃ c, cnAt h c ∧ chX h o c (L.1 L.2.2.1) := by
  obtain ⟨c, c1, c2⟩ := (p.2.1.2 L.2.2.1 hL.1).1
  have ht : L.2.2.1 ≤ 20 := Nat.le_trans hL.1 hL.2.1
  exact ⟨c, ⟨p.1.1.1, p.1.2.1.1, p.1.2.1.2.2.1, L.2.2.1, ht, p.2.1.1.1, c1⟩, c2⟩
theorem act_st (p : stX SC h o L n w S fa tr) (q : stM I L n w S fa tr) (k : stOk L n w S) (x1 x2 : Int32) : ∃ r, gX11_act h 0 x1 x2 = some r ∧ gX12_act (mH I J) 0 x1 x2 = some r := by
  obtain ⟨c, c1, c2⟩ := cn_st p k.1
  obtain ⟨k1, k2, k3, k4, k5, k6, k7⟩ := (k.1.2.2 _ k.1.1).1
  exact ⟨_, actX c1 c2.2 k1 k2 k3 k6 k7 x1 x2, actM (mc_st q) k1 k2 k3 x1 x2⟩
theorem turned_st (p : stX SC h o L n w S fa tr) (q : stM I L n w S fa tr) (k : stOk L n w S) (x1 : Int32) : ∃ r, gX11_turned h 0 x1 = some r ∧ gX12_turned (mH I J) 0 x1 = some r := by
  obtain ⟨c, c1, c2⟩ := cn_st p k.1
  obtain ⟨k1, k2, k3, k4, k5, k6, k7⟩ := (k.1.2.2 _ k.1.1).1
  exact ⟨_, turnedX c1 c2.2 k1 k2 k3 x1, turnedM (mc_st q) k1 k2 k3 x1⟩
theorem many_st (p : stX SC h o L n w S fa tr) (q : stM I L n w S fa tr) (k : stOk L n w S) (x1 : Int32) : ∃ r, gX11_many h 0 x1 = some r ∧ gX12_many (mH I J) 0 x1 = some r := by
  obtain ⟨c, c1, c2⟩ := cn_st p k.1
  obtain ⟨k1, k2, k3, k4, k5, k6, k7⟩ := (k.1.2.2 _ k.1.1).1
  obtain ⟨d0, d1, d2, d3, d4, d5⟩ := c2.2
  obtain ⟨m1, m2, m3, m4⟩ := mc_st (J := J) q
  have f0 : zR h 0 0 = some 1 := p.1.1.1
  have e2 : zI h 1 2 = nI L.2.2.1 := p.2.1.1.1
  have e3 : zI h 1 3 = nI L.2.2.2 := p.2.1.1.2
  have e37 : I 0 37 = nI L.2.2.1 := q.1.1.1
  have e36 : I 0 36 = nI (L.2.2.2 + 1) := q.1.1.2.1
  have w1 : zI h 0 4 = nI n := p.2.2.1.1
  have w2 : I 0 19 = nI n := q.2.1.1
  have e7 : nI (L.2.2.2 + 1) - 1 - nI L.2.2.1 = nI L.2.2.2 - nI L.2.2.1 := by rw [nI_sc]; grind
  unfold gX11_many gX12_many gX2_undoable gX2_redoable
  repeat (first | rw [f0] | rw [chainNow_ok c1] | rw [d0] | rw [d1] | rw [d2] | rw [d3] | rw [d5] | rw [w1] | rw [e2] | rw [e3] | rw [m1] | rw [m2] | rw [m3] | rw [m4] | rw [pairMany_ok (mc_st (J := J) q) k1 k3] | rw [mI_] | rw [w2] | rw [e37] | rw [e36] | rw [e7] | rw [zlt_] | rw [zjn_] | rw [zob_s] | rw [zg_1] | rw [zbi_s] | rw [zbI_s] | rw [zbr_s] | rw [zbR_s] | rw [zbV_s] | rw [zbj_s] | rw [zbJ_s] | rw [zcs_s] | rw [zcs_n])
  repeat' split
  all_goals exact ⟨_, rfl, rfl⟩
end Ops
