/-! the products summed by keys -/
def fR (A B : List Wd) (y : Nat) : Int64 := match A[y / 64 % 64]?, B[y % 64]? with | some a, some b => tuR (phN a.1 b.1) (pa a b) (pb a b) | _, _ => 0
def fI (A B : List Wd) (y : Nat) : Int64 := match A[y / 64 % 64]?, B[y % 64]? with | some a, some b => tuI (phN a.1 b.1) (pa a b) (pb a b) | _, _ => 0
def sel (x : Nat) (F : Nat → Int64) (y : Nat) : Int64 := if y / 4096 = x then F y else 0
theorem addProduct_ok {g : Zh} {o : Nat → Nat} {s a b : Nat} {A B : List Wd} (sa : sumX g o a A) (sb : sumX g o b B) (hA : A.length ≤ 60) (hB : B.length ≤ 60) {i j : Nat} {va vb : Wd} (hva : A[i]? = some va) (hvb : B[j]? = some vb) (ka : va.1 < 65536) (kb : vb.1 < 65536) : gX3_addProduct g s (some a) (nI i) (some b) (nI j) = some (zsJ (zsJ g s 8 (zJ g s 8 + tuR (phN va.1 vb.1) (pa va vb) (pb va vb))) s 9 (zJ g s 9 + tuI (phN va.1 vb.1) (pa va vb) (pb va vb))) := by
  obtain ⟨-, ax, ay, az, ⟨a0, a1, a2⟩, -, ⟨la0, la1, la2⟩, wa⟩ := sa
  obtain ⟨-, bx, by', bz, ⟨b0, b1, b2⟩, -, ⟨lb0, lb1, lb2⟩, wb⟩ := sb
  have hi := len_i hva
  have hj := len_i hvb
  obtain ⟨v1, v2, v3⟩ := wa i va hva
  obtain ⟨w1, w2, w3⟩ := wb j vb hvb
  have ia0 : zin (nI i) (zL g ax) = true := by rw [la0]; exact zin_nI hi (by omega)
  have ia1 : zin (nI i) (zL g ay) = true := by rw [la1]; exact zin_nI hi (by omega)
  have ia2 : zin (nI i) (zL g az) = true := by rw [la2]; exact zin_nI hi (by omega)
  have ib0 : zin (nI j) (zL g bx) = true := by rw [lb0]; exact zin_nI hj (by omega)
  have ib1 : zin (nI j) (zL g by') = true := by rw [lb1]; exact zin_nI hj (by omega)
  have ib2 : zin (nI j) (zL g bz) = true := by rw [lb2]; exact zin_nI hj (by omega)
  have epa : va.2.1.toInt64 * vb.2.1.toInt64 - va.2.2.toInt64 * vb.2.2.toInt64 = pa va vb := rfl
  have epb : va.2.1.toInt64 * vb.2.2.toInt64 + va.2.2.toInt64 * vb.2.1.toInt64 = pb va vb := rfl
  have s89 : ∀ (g : Zh) (v : Int64), zJ (zsJ g s 8 v) s 9 = zJ g s 9 := fun g v => by rw [zJ_s, if_neg (by omega)]
  have l1 : phN va.1 vb.1 < 4 := Nat.mod_lt _ (by decide)
  have sb1 : ∀ x y : Int64, x - y = x + -y := fun x y => by grind
  unfold gX3_addProduct
  repeat (first | rw [a0] | rw [a1] | rw [a2] | rw [b0] | rw [b1] | rw [b2] | rw [ia0] | rw [ia1] | rw [ia2] | rw [ib0] | rw [ib1] | rw [ib2] | rw [zx_nI (show i < 2 ^ 31 by omega)] | rw [zx_nI (show j < 2 ^ 31 by omega)] | rw [v1] | rw [v2] | rw [v3] | rw [w1] | rw [w2] | rw [w3] | rw [epa] | rw [epb] | rw [quarter_ok ka kb] | rw [s89] | rw [sb1] | rw [zlt_] | rw [zjn_] | rw [zob_s] | rw [zg_1] | rw [zbi_s] | rw [zbI_s] | rw [zbr_s] | rw [zbR_s] | rw [zbV_s] | rw [zbj_s] | rw [zbJ_s] | rw [zcs_s] | rw [zcs_n])
  unfold tuR tuI
  rcases (show phN va.1 vb.1 = 0 ∨ phN va.1 vb.1 = 1 ∨ phN va.1 vb.1 = 2 ∨ phN va.1 vb.1 = 3 by omega) with e | e | e | e <;> rw [e] <;> rfl
theorem mul_sum {h : Zh} {o : Nat → Nat} {s p q n : Nat} (hx : mxS h o s p q n) {a b : Nat} {A B : List Wd} (sa : sumX h o a A) (sb : sumX h o b B) (hA : A.length ≤ 60) (hB : B.length ≤ 60) (kA : ∀ w ∈ A, w.1 < 65536) (kB : ∀ w ∈ B, w.1 < 65536) (t : Int64) {ys : List Nat} (hys : ∀ y ∈ ys, isP A B y) (hyl : ys.length ≤ n) (hso : ys.Pairwise (fun x y => x / 4096 ≤ y / 4096)) (hp : hld h p ys) : ∀ (d at' : Nat) (g : Zh) (E : List (Nat × Int64 × Int64)) (re im : Int64), at' + d = ys.length → mxM s h g → mxE g s E → eS E → E.length ≤ at' → zJ g s 8 = re → zJ g s 9 = im → (∀ c ∈ E, ∀ y ∈ ys.drop at', c.1 < y / 4096) → (∀ x, (sAt (eR E) x + (match ys[at']? with | some y => if y / 4096 = x then t * re else 0 | none => 0) + t * sF (sel x (fR A B)) (ys.drop at') = t * sF (sel x (fR A B)) ys) ∧ (sAt (eI E) x + (match ys[at']? with | some y => if y / 4096 = x then t * im else 0 | none => 0) + t * sF (sel x (fI A B)) (ys.drop at') = t * sF (sel x (fI A B)) ys)) → ∀ fu, d < fu → ∃ h' E', zlp (fun (_ : Int32) (_ : Zh) => (none : Option (Zh))) (gX3_multiply_L3 s a b (nI ys.length) t) fu (nI at') g = some h' ∧ mxM s h h' ∧ mxE h' s E' ∧ eS E' ∧ E'.length ≤ ys.length ∧ ∀ x, sAt (eR E') x = t * sF (sel x (fR A B)) ys ∧ sAt (eI E') x = t * sF (sel x (fI A B)) ys := by
  have ho : ∀ a, a < 5 → o (s + a) = 3 := fun a ha => (hx.1 a ha).2
  obtain ⟨-, -, -, ⟨hsp, -⟩, -, ⟨x6, -⟩, -, ⟨lp, -⟩, hn⟩ := id hx
  have hn4 : n ≤ 4096 := by simp at hn; omega
  intro d
  induction d with
  | zero =>
    intro at' g E re im hat m e es el _ _ hk hs fu hfu
    have : at' = ys.length := by omega
    subst this
    obtain ⟨fu, rfl⟩ : ∃ f, fu = f + 1 := ⟨fu - 1, by omega⟩
    refine ⟨g, E, ?_, m, e, es, el, fun x => ?_⟩
    · show gX3_multiply_L3 s a b (nI ys.length) t _ (nI ys.length) g = _
      unfold gX3_multiply_L3
      rw [if_pos (Int32.le_refl _)]
    · obtain ⟨h1, h2⟩ := hs x
      rw [List.drop_length, List.getElem?_eq_none (Nat.le_refl _)] at h1 h2
      refine ⟨?_, ?_⟩
      · rw [← h1]; show _ = _ + 0 + t * 0; grind
      · rw [← h2]; show _ = _ + 0 + t * 0; grind
  | succ d ih =>
    intro at' g E re im hat m e es el hre him hk hs fu hfu
    obtain ⟨fu, rfl⟩ : ∃ f, fu = f + 1 := ⟨fu - 1, by omega⟩
    obtain ⟨y, hy⟩ := get_some (l := ys) (i := at') (by omega)
    obtain ⟨i, j, va, vb, hva, hvb, rfl⟩ := hys y (List.mem_of_getElem? hy)
    have hi := len_i hva
    have hj := len_i hvb
    have ka := kA va (List.mem_of_getElem? hva)
    have kb := kB vb (List.mem_of_getElem? hvb)
    have hx64 := xor_lt ka kb
    obtain ⟨p1, p2, p3⟩ := pcd_d (k := va.1 ^^^ vb.1) (i := i) (j := j) (by omega) (by omega)
    have hyb : pcd (va.1 ^^^ vb.1) i j < 2147483648 := by unfold pcd; omega
    have hfR : fR A B (pcd (va.1 ^^^ vb.1) i j) = tuR (phN va.1 vb.1) (pa va vb) (pb va vb) := by
      unfold fR
      rw [p2, p3, hva, hvb]
    have hfI : fI A B (pcd (va.1 ^^^ vb.1) i j) = tuI (phN va.1 vb.1) (pa va vb) (pb va vb) := by
      unfold fI
      rw [p2, p3, hva, hvb]
    have hdrop := drop_c hy
    have mv := m.mv ho
    have sa' := sa.mv mv (by omega)
    have sb' := sb.mv mv (by omega)
    have g4 : zR g s 4 = some p := (m.2.2.1 s 4).trans x6
    have gin : zin (nI at') (zL g p) = true := by rw [(m.2.1 p).2, lp]; exact zin_nI (by omega) (by omega)
    have gv : zI g p at' = nI (pcd (va.1 ^^^ vb.1) i j) := (m.2.2.2.2 p at' (by omega)).trans (hp at' _ hy)
    have e12 : nI (pcd (va.1 ^^^ vb.1) i j) >>> ((12 : Int32) &&& 31) = nI (va.1 ^^^ vb.1) := by rw [nI_o 12, nI_shr hyb (by omega), p1]
    have e6 : (nI (pcd (va.1 ^^^ vb.1) i j) >>> ((6 : Int32) &&& 31)) &&& 63 = nI i := by rw [nI_o 6, nI_shr hyb (by omega), nI_o 63, nI_and, and63, p2]
    have e63 : nI (pcd (va.1 ^^^ vb.1) i j) &&& 63 = nI j := by rw [nI_o 63, nI_and, and63, p3]
    have hap := addProduct_ok (s := s) sa' sb' hA hB hva hvb ka kb
    rw [hre, him, ← hfR, ← hfI] at hap
    let g1 := zsJ (zsJ g s 8 (re + fR A B (pcd (va.1 ^^^ vb.1) i j))) s 9 (im + fI A B (pcd (va.1 ^^^ vb.1) i j))
    have m1 : mxM s h g1 := (m.tr (mxM.J g 8 _)).tr (mxM.J _ 9 _)
    have j8 : zJ g1 s 8 = re + fR A B (pcd (va.1 ^^^ vb.1) i j) := by
      show zJ (zsJ (zsJ g s 8 _) s 9 _) s 8 = _
      rw [zJ_s, if_neg (by omega), zJ_se]
    have j9 : zJ g1 s 9 = im + fI A B (pcd (va.1 ^^^ vb.1) i j) := zJ_se _ _ _ _
    have e1 : mxE g1 s E := e.J.J
    have hle : ¬ nI ys.length ≤ nI at' := zge_n (by omega) (by omega)
    have hlE : ∀ c ∈ E, c.1 < va.1 ^^^ vb.1 := fun c hc => by
      have := hk c hc (pcd (va.1 ^^^ vb.1) i j) (by rw [hdrop]; exact List.mem_cons_self)
      rwa [p1] at this
    have hsd : (ys.drop at').Pairwise (fun x y => x / 4096 ≤ y / 4096) := List.Pairwise.sublist (List.drop_sublist at' ys) hso
    rw [hdrop] at hsd
    have hge : ∀ z ∈ ys.drop (at' + 1), va.1 ^^^ vb.1 ≤ z / 4096 := fun z hz => by
      have := (List.pairwise_cons.mp hsd).1 z hz
      rwa [p1] at this
    -- one key is done: its sum is emitted
    have hflush : (∀ z ∈ ys.drop (at' + 1), va.1 ^^^ vb.1 < z / 4096) → ∃ h' E', gX3_multiply_J2 s t (nI (va.1 ^^^ vb.1)) g1 (gX3_multiply_J1 (nI at') (zlp (fun (_ : Int32) (_ : Zh) => (none : Option (Zh))) (gX3_multiply_L3 s a b (nI ys.length) t) fu)) = some h' ∧ mxM s h h' ∧ mxE h' s E' ∧ eS E' ∧ E'.length ≤ ys.length ∧ ∀ x, sAt (eR E') x = t * sF (sel x (fR A B)) ys ∧ sAt (eI E') x = t * sF (sel x (fI A B)) ys := by
      intro habove
      obtain ⟨g2, c1, c2, c3, c4⟩ := emit_ok (hx.mv m1) e1 (by omega) (va.1 ^^^ vb.1) (t * zJ g1 s 8) (t * zJ g1 s 9)
      have hlen := emL_len (va.1 ^^^ vb.1) (t * zJ g1 s 8) (t * zJ g1 s 9)
      have := ih (at' + 1) (zsJ (zsJ g2 s 8 0) s 9 0) (E ++ emL (va.1 ^^^ vb.1) (t * zJ g1 s 8) (t * zJ g1 s 9)) 0 0 (by omega) (((m1.tr c2).tr (mxM.J _ 8 _)).tr (mxM.J _ 9 _)) c3.J.J (eS_em es hx64 hlE _ _) (by rw [List.length_append]; omega) (by rw [zJ_s, if_neg (by omega), zJ_se]) (zJ_se _ _ _ _) (fun c hc z hz => by
        rcases List.mem_append.mp hc with hc | hc
        · exact Nat.lt_of_lt_of_le (hlE c hc) (hge z hz)
        · rw [(emL_mem hc).1]; exact habove z hz) (fun x => by
        obtain ⟨h1, h2⟩ := hs x
        rw [eR_app, eI_app, sAt_app, sAt_app, (sAt_em _ _ _ _).1, (sAt_em _ _ _ _).2, j8, j9, ← h1, ← h2, hdrop]
        simp only [hy]
        have z1 : (match ys[at' + 1]? with | some y => if y / 4096 = x then t * (0 : Int64) else 0 | none => 0) = 0 := by
          split
          · split
            · exact Int64.mul_zero
            · rfl
          · rfl
        rw [z1, p1]
        show sAt (eR E) x + (if va.1 ^^^ vb.1 = x then t * (re + fR A B (pcd (va.1 ^^^ vb.1) i j)) else 0) + 0 + t * sF (sel x (fR A B)) (ys.drop (at' + 1)) = sAt (eR E) x + (if va.1 ^^^ vb.1 = x then t * re else 0) + t * ((if pcd (va.1 ^^^ vb.1) i j / 4096 = x then fR A B (pcd (va.1 ^^^ vb.1) i j) else 0) + sF (sel x (fR A B)) (ys.drop (at' + 1))) ∧ sAt (eI E) x + (if va.1 ^^^ vb.1 = x then t * (im + fI A B (pcd (va.1 ^^^ vb.1) i j)) else 0) + 0 + t * sF (sel x (fI A B)) (ys.drop (at' + 1)) = sAt (eI E) x + (if va.1 ^^^ vb.1 = x then t * im else 0) + t * ((if pcd (va.1 ^^^ vb.1) i j / 4096 = x then fI A B (pcd (va.1 ^^^ vb.1) i j) else 0) + sF (sel x (fI A B)) (ys.drop (at' + 1)))
        rw [p1]
        by_cases hkx : va.1 ^^^ vb.1 = x
        · simp only [if_pos hkx]; exact ⟨by grind, by grind⟩
        · simp only [if_neg hkx]; exact ⟨by grind, by grind⟩) fu (by omega)
      obtain ⟨h', E', d1, d2⟩ := this
      refine ⟨h', E', ?_, d2⟩
      rw [← d1]
      unfold gX3_multiply_J2
      rw [c1, zbV_s, zlt_, zlt_]
      unfold gX3_multiply_J1
      rw [← nI_sc]
    show ∃ h' E', gX3_multiply_L3 s a b (nI ys.length) t _ (nI at') g = some h' ∧ _
    generalize hZ : zlp (fun (_ : Int32) (_ : Zh) => (none : Option (Zh))) (gX3_multiply_L3 s a b (nI ys.length) t) fu = Z at hflush ⊢
    unfold gX3_multiply_L3
    rw [if_neg hle]
    repeat (first | rw [g4] | rw [gin] | rw [zx_nI (show at' < 2 ^ 31 by omega)] | rw [gv] | rw [e12] | rw [e6] | rw [e63] | rw [hap] | rw [zlt_] | rw [zjn_] | rw [zob_s] | rw [zg_1] | rw [zbi_s] | rw [zbI_s] | rw [zbr_s] | rw [zbR_s] | rw [zbV_s] | rw [zbj_s] | rw [zbJ_s] | rw [zcs_s] | rw [zcs_n])
    rw [← nI_sc]
    by_cases hlast : at' + 1 = ys.length
    · rw [if_pos (by rw [hlast])]
      exact hflush (fun z hz => by rw [hlast, List.drop_length] at hz; cases hz)
    · rw [if_neg (fun hh => hlast ((nI_inj (by omega) (by omega)).mp hh))]
      obtain ⟨y2, hy2⟩ := get_some (l := ys) (i := at' + 1) (by omega)
      obtain ⟨i2, j2, va2, vb2, hva2, hvb2, rfl⟩ := hys y2 (List.mem_of_getElem? hy2)
      have ka2 := kA va2 (List.mem_of_getElem? hva2)
      have kb2 := kB vb2 (List.mem_of_getElem? hvb2)
      have hx642 := xor_lt ka2 kb2
      have hi2 := len_i hva2
      have hj2 := len_i hvb2
      obtain ⟨p21, p22, p23⟩ := pcd_d (k := va2.1 ^^^ vb2.1) (i := i2) (j := j2) (by omega) (by omega)
      have hyb2 : pcd (va2.1 ^^^ vb2.1) i2 j2 < 2147483648 := by unfold pcd; omega
      have e122 : nI (pcd (va2.1 ^^^ vb2.1) i2 j2) >>> ((12 : Int32) &&& 31) = nI (va2.1 ^^^ vb2.1) := by rw [nI_o 12, nI_shr hyb2 (by omega), p21]
      have gin2 : zin (nI (at' + 1)) (zL g p) = true := by rw [(m.2.1 p).2, lp]; exact zin_nI (by omega) (by omega)
      have gv2 : zI g p (at' + 1) = nI (pcd (va2.1 ^^^ vb2.1) i2 j2) := (m.2.2.2.2 p _ (by omega)).trans (hp _ _ hy2)
      repeat (first | rw [zR_sJ] | rw [zL_sJ] | rw [zI_sJ] | rw [g4] | rw [gin2] | rw [zx_nI (show at' + 1 < 2 ^ 31 by omega)] | rw [gv2] | rw [e122] | rw [zlt_] | rw [zjn_] | rw [zob_s] | rw [zg_1] | rw [zbi_s] | rw [zbI_s] | rw [zbr_s] | rw [zbR_s] | rw [zbV_s] | rw [zbj_s] | rw [zbJ_s] | rw [zcs_s] | rw [zcs_n])
      have hdrop2 := drop_c hy2
      by_cases hsame : va2.1 ^^^ vb2.1 = va.1 ^^^ vb.1
      · rw [if_pos (by rw [hsame])]
        have p21' := p21
        rw [hsame] at p21'
        have := ih (at' + 1) g1 E _ _ (by omega) m1 e1 es (by omega) j8 j9 (fun c hc z hz => Nat.lt_of_lt_of_le (hlE c hc) (hge z hz)) (fun x => by
          obtain ⟨h1, h2⟩ := hs x
          rw [← h1, ← h2, hdrop]
          simp only [hy, hy2, hsame, p21', p1]
          show sAt (eR E) x + (if va.1 ^^^ vb.1 = x then t * (re + fR A B (pcd (va.1 ^^^ vb.1) i j)) else 0) + t * sF (sel x (fR A B)) (ys.drop (at' + 1)) = sAt (eR E) x + (if va.1 ^^^ vb.1 = x then t * re else 0) + t * ((if pcd (va.1 ^^^ vb.1) i j / 4096 = x then fR A B (pcd (va.1 ^^^ vb.1) i j) else 0) + sF (sel x (fR A B)) (ys.drop (at' + 1))) ∧ sAt (eI E) x + (if va.1 ^^^ vb.1 = x then t * (im + fI A B (pcd (va.1 ^^^ vb.1) i j)) else 0) + t * sF (sel x (fI A B)) (ys.drop (at' + 1)) = sAt (eI E) x + (if va.1 ^^^ vb.1 = x then t * im else 0) + t * ((if pcd (va.1 ^^^ vb.1) i j / 4096 = x then fI A B (pcd (va.1 ^^^ vb.1) i j) else 0) + sF (sel x (fI A B)) (ys.drop (at' + 1)))
          rw [p1]
          by_cases hkx : va.1 ^^^ vb.1 = x
          · simp only [if_pos hkx]; exact ⟨by grind, by grind⟩
          · simp only [if_neg hkx]; exact ⟨by grind, by grind⟩) fu (by omega)
        obtain ⟨h', E', d1, d2⟩ := this
        refine ⟨h', E', ?_, d2⟩
        rw [← d1, ← hZ]
        unfold gX3_multiply_J1
        rw [← nI_sc]
      · rw [if_neg (fun hh => hsame ((nI_inj (by omega) (by omega)).mp hh))]
        refine hflush (fun z hz => ?_)
        have h1 := hge (pcd (va2.1 ^^^ vb2.1) i2 j2) (by rw [hdrop2]; exact List.mem_cons_self)
        rw [p21] at h1
        have h2 : (va2.1 ^^^ vb2.1) ≤ z / 4096 := by
          rw [hdrop2] at hz
          rcases List.mem_cons.mp hz with rfl | hz
          · rw [p21]; exact Nat.le_refl _
          · have hp2 : (ys.drop (at' + 1)).Pairwise (fun x y => x / 4096 ≤ y / 4096) := List.Pairwise.sublist (List.drop_sublist _ ys) hso
            rw [hdrop2] at hp2
            have := (List.pairwise_cons.mp hp2).1 z hz
            rwa [p21] at this
        omega
theorem csN_hld {d : Nat → Nat} {xs : List Nat} {h : Zh} {p n : Nat} (hx : ∀ m x, (csN d xs n)[m]? = some x → zI h p m = nI x) : hld h p (csN d xs n) := hx
theorem rwM.mv {h h' : Zh} {o : Nat → Nat} {s t : Nat} (m : rwM s t h h') (h1 : o s = 3) (h2 : o t = 3) : zMv (fun t => t = 3) h o h' o := ⟨by rw [m.1.1]; exact Nat.le_refl _, fun _ _ => rfl, fun c hc ht => ⟨(m.2.1 c).1, (m.2.1 c).2, fun k => m.2.2.2.2 c k (fun e => ht (by rw [e]; exact h1)) (fun e => ht (by rw [e]; exact h2)), m.2.2.2.1 c, m.2.2.1 c⟩⟩
theorem mxS.rw {h h' : Zh} {o : Nat → Nat} {s p q n a b : Nat} (m : rwM a b h h') (x : mxS h o s p q n) : mxS h' o s p q n := by
  obtain ⟨x1, x2, x3, x4, x5, ⟨x6, x7⟩, ⟨y1, y2, y3, y4⟩, ⟨z1, z2⟩, x9⟩ := x
  have hL := fun a => (m.2.1 a).2
  exact ⟨fun a ha => ⟨by rw [m.1.1]; exact (x1 a ha).1, (x1 a ha).2⟩, ⟨by rw [m.1.1]; exact x2.1, x2.2⟩, ⟨by rw [m.1.1]; exact x3.1, x3.2⟩, x4, fun a ha => (m.2.2.1 _ _).trans (x5 a ha), ⟨(m.2.2.1 _ _).trans x6, (m.2.2.1 _ _).trans x7⟩, ⟨(hL _).trans y1, (hL _).trans y2, (hL _).trans y3, (hL _).trans y4⟩, ⟨(hL _).trans z1, (hL _).trans z2⟩, x9⟩
/-- pairs sorted by their keys -/
theorem sortPairs_ok {h : Zh} {o : Nat → Nat} {s p q n : Nat} (hx : mxS h o s p q n) {xs : List Nat} (hl : xs.length ≤ n) (hb : ∀ x ∈ xs, x < 268435456) (hp : hld h p xs) : ∃ h' ys, gX3_sortPairs h s (nI xs.length) = some h' ∧ (mxS h' o s p q n ∧ zMv (fun t => t = 3) h o h' o ∧ (zN h' = zN h ∧ zS h' = zS h)) ∧ (∀ a k, a < s + 4 → zI h' a k = zI h a k) ∧ hld h' p ys ∧ ys.length = xs.length ∧ (∀ y, y ∈ ys ↔ y ∈ xs) ∧ (∀ F, sF F ys = sF F xs) ∧ ys.Pairwise (fun x y => x / 4096 ≤ y / 4096) ∧ (xs.Pairwise (fun x y => x / 4096 ≠ y / 4096) → ys.Pairwise (fun x y => x / 4096 ≠ y / 4096)) := by
  obtain ⟨x1, ⟨-, op⟩, ⟨-, oq⟩, ⟨x4, x4'⟩, x5, ⟨x6, x7⟩, ⟨-, -, -, y4⟩, ⟨z1, z2⟩, x9⟩ := id hx
  have hn : n ≤ 4096 := by simp at x9; omega
  have o4 := (x1 4 (by omega)).2
  have r3 : zR h s 3 = some (s + 4) := x5 3 (by omega)
  let d1 : Nat → Nat := fun y => y / 2 ^ 12 % 256
  let d2 : Nat → Nat := fun y => y / 2 ^ 20 % 256
  have dl1 : ∀ x, d1 x < 256 := fun x => Nat.mod_lt _ (by decide)
  have dl2 : ∀ x, d2 x < 256 := fun x => Nat.mod_lt _ (by decide)
  obtain ⟨h1, g1, m1, v1⟩ := sort_ok (bit := 12) r3 y4 z1 z2 hn hl (by omega) (by omega) (by omega) (by omega) (fun i x hi => ⟨hp i x hi, by have := hb x (List.mem_of_getElem? hi); omega⟩)
  have hx1 := hx.rw m1
  have hc1 : (csN d1 xs 256).length = xs.length := by rw [csN_len, cLt_all d1 256 xs (fun x _ => dl1 x)]
  obtain ⟨h2, g2, m2, v2⟩ := sort_ok (h := h1) (bit := 20) (xs := csN d1 xs 256) (fr := q) (to' := p) (n := n) ((m1.2.2.1 _ _).trans r3) ((m1.2.1 _).2.trans y4) ((m1.2.1 _).2.trans z2) ((m1.2.1 _).2.trans z1) hn (by rw [hc1]; exact hl) (by omega) (by omega) (by omega) (by omega) (fun i x hi => ⟨v1 i x hi, by have := hb x ((csN_mem d1 xs x 256).mp (List.mem_of_getElem? hi)).1; omega⟩)
  rw [hc1] at g2
  refine ⟨h2, csN d2 (csN d1 xs 256) 256, ?_, ⟨hx1.rw m2, (m1.mv o4 oq).tr (m2.mv o4 op), m2.1.1.trans m1.1.1, m2.1.2.trans m1.1.2⟩, fun a k ha => (m2.2.2.2.2 a k (by omega) (by omega)).trans (m1.2.2.2.2 a k (by omega) (by omega)), v2, ?_, fun y => ?_, fun F => ?_, ?_, fun hne => ?_⟩
  · unfold gX3_sortPairs
    have r4' : zR h1 s 4 = some p := (m1.2.2.1 _ _).trans x6
    have r5' : zR h1 s 5 = some q := (m1.2.2.1 _ _).trans x7
    have g1' : gX3_sortByByte h s (some p) (some q) (nI xs.length) 12 = some h1 := g1
    have g2' : gX3_sortByByte h1 s (some q) (some p) (nI xs.length) 20 = some h2 := g2
    repeat (first | rw [x6] | rw [x7] | rw [g1'] | rw [r4'] | rw [r5'] | rw [g2'] | rw [zlt_] | rw [zjn_] | rw [zob_s] | rw [zg_1] | rw [zbi_s] | rw [zbI_s] | rw [zbr_s] | rw [zbR_s] | rw [zbV_s] | rw [zbj_s] | rw [zbJ_s] | rw [zcs_s] | rw [zcs_n])
  · rw [csN_len, cLt_all d2 256 _ (fun x _ => dl2 x), hc1]
  · rw [csN_mem, csN_mem]
    exact ⟨fun hh => hh.1.1, fun hh => ⟨⟨hh, dl1 y⟩, dl2 y⟩⟩
  · rw [sF_cs, sF_all F d2 256 _ (fun x _ => dl2 x), sF_cs, sF_all F d1 256 _ (fun x _ => dl1 x)]
  · have hp1 := csN_pw d1 xs (fun _ _ => True) (List.pairwise_of_forall (fun _ _ => trivial)) 256
    have hp2 := csN_pw d2 (csN d1 xs 256) _ hp1 256
    refine List.Pairwise.imp_of_mem (fun {a b} ha hb' hr => ?_) hp2
    have ba := hb a (((csN_mem d1 xs a 256).mp ((csN_mem d2 _ a 256).mp ha).1).1)
    have bb := hb b (((csN_mem d1 xs b 256).mp ((csN_mem d2 _ b 256).mp hb').1).1)
    have hr : a / 2 ^ 20 % 256 < b / 2 ^ 20 % 256 ∨ (a / 2 ^ 20 % 256 = b / 2 ^ 20 % 256 ∧ (a / 2 ^ 12 % 256 < b / 2 ^ 12 % 256 ∨ (a / 2 ^ 12 % 256 = b / 2 ^ 12 % 256 ∧ True))) := hr
    omega
  · have hp1 := csN_pw d1 xs _ hne 256
    have hp1' : (csN d1 xs 256).Pairwise (fun x y => x / 4096 ≠ y / 4096) := List.Pairwise.imp (fun {a b} hr => by
      have hr : a / 2 ^ 12 % 256 < b / 2 ^ 12 % 256 ∨ (a / 2 ^ 12 % 256 = b / 2 ^ 12 % 256 ∧ a / 4096 ≠ b / 4096) := hr
      omega) hp1
    have hp2 := csN_pw d2 (csN d1 xs 256) _ hp1' 256
    refine List.Pairwise.imp (fun {a b} hr => ?_) hp2
    have hr : a / 2 ^ 20 % 256 < b / 2 ^ 20 % 256 ∨ (a / 2 ^ 20 % 256 = b / 2 ^ 20 % 256 ∧ a / 4096 ≠ b / 4096) := hr
    omega
theorem mxE_mv {h h' : Zh} {s : Nat} {E : List (Nat × Int64 × Int64)} (hi : ∀ a k, s ≤ a → a ≤ s + 3 → zI h' a k = zI h a k) (e : mxE h s E) : mxE h' s E := by
  obtain ⟨e1, e2, e3⟩ := e
  refine ⟨(hi s 6 (Nat.le_refl _) (by omega)).trans e1, ?_, fun i c hc h60 => ?_⟩
  · rw [hi s 7 (Nat.le_refl _) (by omega)]; exact e2
  · rw [hi (s + 1) i (by omega) (by omega), hi (s + 2) i (by omega) (by omega), hi (s + 3) i (by omega) (by omega)]
    exact e3 i c hc h60
theorem multiply_ok {h : Zh} {o : Nat → Nat} {s p q n : Nat} (hx : mxS h o s p q n) {a b : Nat} {A B : List Wd} (sa : sumX h o a A) (sb : sumX h o b B) (hA : A.length ≤ 60) (hB : B.length ≤ 60) (kA : ∀ w ∈ A, w.1 < 65536) (kB : ∀ w ∈ B, w.1 < 65536) (br : Bool) : ∃ h' o' p' q' n' E, gX3_multiply h s (some a) (some b) (if br = true then 1 else 0) = some h' ∧ mxS h' o' s p' q' n' ∧ zMv (fun t => t = 3) h o h' o' ∧ (zN h' ≤ zN h + 2 ∧ zS h' ≤ zS h + 8192) ∧ mxE h' s E ∧ eS E ∧ E.length ≤ 4096 ∧ ∀ x, sAt (eR E) x = (if br = true then 2 else 1) * sF (sel x (fR A B)) (allC A B br A.length) ∧ sAt (eI E) x = (if br = true then 2 else 1) * sF (sel x (fI A B)) (allC A B br A.length) := by
  have hmul : A.length * B.length ≤ 3600 := Nat.mul_le_mul hA hB
  have ho : ∀ a, a < 5 → o (s + a) = 3 := fun a ha => (hx.1 a ha).2
  obtain ⟨h1, g1, m1, e1, -⟩ := begin_ok h s
  have hx1 := hx.mv m1
  obtain ⟨h2, o2, p', q', n', g2, hn, hx2, mv2, i2, i2', b1, b2⟩ := makeRoom_ok hx1 (c := A.length * B.length) (by omega)
  have sa1 := sa.mv (m1.mv ho) (by omega)
  have sb1 := sb.mv (m1.mv ho) (by omega)
  have sa2 := sa1.mv mv2 (by omega)
  have sb2 := sb1.mv mv2 (by omega)
  obtain ⟨-, ⟨-, op⟩, -, ⟨hsp, -⟩, -, ⟨x6, -⟩, -, ⟨lp, -⟩, hnl⟩ := id hx2
  have hn4 : n' ≤ 4096 := by simp at hnl; omega
  obtain ⟨h3, m3, q3, k3⟩ := mul_all sa2 sb2 hA hB kA kB x6 lp hn hn4 op br A.length 0 h2 (by omega) (rwM.rf _ _ _) (fun i x hx => by cases hx)
  have hx3 := hx2.rw m3
  have mv3 := m3.mv op op
  have sa3 := sa2.mv mv3 (by omega)
  have sb3 := sb2.mv mv3 (by omega)
  have hlen : (allC A B br A.length).length ≤ n' := Nat.le_trans (allC_len A B br A.length) hn
  obtain ⟨h4, ys, g4, ⟨hx4, mv4, z4⟩, i4, q4, yl, ym, yF, yP, -⟩ := sortPairs_ok hx3 hlen (fun y hy => by
    obtain ⟨i, j, va, vb, hva, hvb, rfl⟩ := allC_p A.length y hy
    have := xor_lt (kA va (List.mem_of_getElem? hva)) (kB vb (List.mem_of_getElem? hvb))
    have := len_i hva
    have := len_i hvb
    unfold pcd; omega) q3
  have sa4 := sa3.mv mv4 (by omega)
  have sb4 := sb3.mv mv4 (by omega)
  have e4 : mxE h4 s [] := mxE_mv (fun a k ha hb => by
    rw [i4 a k (by omega), m3.2.2.2.2 a k (by omega) (by omega)]
    rcases (show a = s ∨ s < a by omega) with rfl | h'
    · exact i2 k
    · exact i2' a k h' (by omega)) e1
  let t : Int64 := if br = true then 2 else 1
  let h6 := zsJ (zsJ h4 s 8 0) s 9 0
  have m6 : mxM s h4 h6 := (mxM.J h4 8 0).tr (mxM.J _ 9 0)
  have := mul_sum hx4 sa4 sb4 hA hB kA kB t (ys := ys) (fun y hy => allC_p A.length y ((ym y).mp hy)) (by rw [yl]; exact hlen) yP q4 ys.length 0 h6 [] 0 0 (by omega) m6 e4.J.J ⟨List.Pairwise.nil, fun c hc => by cases hc⟩ (Nat.zero_le _) (by
    show zJ (zsJ (zsJ h4 s 8 0) s 9 0) s 8 = 0
    rw [zJ_s, if_neg (by omega), zJ_se]) (zJ_se _ _ _ _) (fun c hc => by cases hc) (fun x => by
    rw [List.drop_zero]
    have z1 : (match ys[0]? with | some y => if y / 4096 = x then t * (0 : Int64) else 0 | none => 0) = 0 := by
      split
      · split
        · exact Int64.mul_zero
        · rfl
      · rfl
    rw [z1]
    refine ⟨?_, ?_⟩
    · show (0 : Int64) + 0 + _ = _; grind
    · show (0 : Int64) + 0 + _ = _; grind) zFU (by unfold zFU; omega)
  obtain ⟨h', E, c1, c2, c3, c4, c5, c6⟩ := this
  have ho4 : ∀ a, a < 5 → o2 (s + a) = 3 := fun a ha => (hx4.1 a ha).2
  refine ⟨h', o2, p', q', n', E, ?_, hx4.mv c2, (((m1.mv ho).tr mv2).tr mv3).tr (mv4.tr (c2.mv ho4)), ⟨?_, ?_⟩, c3, c4, by omega, fun x => ?_⟩
  · have e0 : nI A.length * nI B.length = nI (A.length * B.length) := pk_mul _ _
    have hk := k3 (gX3_multiply_J5 s (if br = true then 1 else 0) a b) zFU (by unfold zFU; omega)
    rw [show (allC A B br 0).length = 0 from rfl] at hk
    unfold gX3_multiply
    repeat (first | rw [g1] | rw [count_okX sa1] | rw [count_okX sb1] | rw [e0] | rw [g2] | rw [zlt_] | rw [zjn_] | rw [zob_s] | rw [zg_1] | rw [zbi_s] | rw [zbI_s] | rw [zbr_s] | rw [zbR_s] | rw [zbV_s] | rw [zbj_s] | rw [zbJ_s] | rw [zcs_s] | rw [zcs_n])
    refine Eq.trans hk ?_
    unfold gX3_multiply_J5
    rw [g4, zbV_s, zjn_]
    have hj : ∀ K : Int64 → Option Zh, (if (if br = true then (1 : Int32) else 0) = 0 then K 1 else K 2) = K t := fun K => by
      cases br <;> rfl
    rw [hj]
    unfold gX3_multiply_J4
    rw [zlt_, zlt_, ← yl]
    exact c1
  · rw [c2.1.1, z4.1, m3.1.1]; have := m1.1.1; omega
  · rw [c2.1.2, z4.2, m3.1.2]; have := m1.1.2; omega
  · rw [(c6 x).1, (c6 x).2, yF, yF]
    exact ⟨rfl, rfl⟩
