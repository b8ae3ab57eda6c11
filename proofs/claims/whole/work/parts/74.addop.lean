/-! what was mixed is kept, by both; add; sums added or taken away -/
section Ops
variable {SC : Ch → (Nat → Nat → Int32) → (Nat → Nat → Int64) → Prop} {h h0 : Zh} {o : Nat → Nat} {L : Led} {n : Nat} {w : Nat → Wt} {S : Nat → Option Sh} {fa tr : Int32} {I : Nat → Nat → Int32} {J : Nat → Nat → Int64}
/-- the class has mixed words, the reference has its table: both keep them, or both find them spent -/
theorem keep_both {f g : Nat → Int64} {s pp qq nn k : Nat} {E : List (Nat × Int64 × Int64)} (hk : k < 4) (p : stX SC h o L n w S fa tr) (q : stM I L n w S fa tr) (hst : stOk L n w S) (e8 : zR h 0 8 = some s) (hx : mxS h o s pp qq nn) (he : mxE h s E) (hE : E = nz f g 65536) (b1 : zN h ≤ zN h0 + 30) (b2 : zS h ≤ zS h0 + 9000) : stG SC (zbI (gX11_keep h 0 (nI k) (some s)) (fun x h1 => some (x, h1))) (zbI (gX12_putOrSpent (mH I (wJ J f g)) 0 (nI k)) (fun x h1 => some (x, h1))) h0 := by
  have hL := hst.1
  have hlen : E.length < 100000 := by rw [hE]; have := nz_le f g 65536; omega
  have f0 : zR h 0 0 = some 1 := p.1.1.1
  obtain ⟨x, hf, hc⟩ := fits_ok he hlen
  unfold gX11_keep
  rw [zob_s, hf, zbi_s]
  rcases putOrSpent_ok (f := f) (g := g) (J := J) hk hL q with ⟨hs, hm⟩ | ⟨hok, ⟨hl60, hns⟩, I', hm, q2⟩
  · have hx0 : x = 0 := by
      rcases hc with ⟨-, c1, c2⟩ | ⟨c, -⟩
      · rw [hE] at c1 c2
        rcases hs with hs | hs
        · omega
        · exact absurd ((anyB_nz f g 65536).mpr hs) c2
      · exact c
    rw [hx0, if_pos rfl, hm, zbI_s, zbI_s]
    exact ⟨_, h, I, _, o, L, n, w, S, fa, tr, rfl, rfl, p, q, hst, by omega, by omega⟩
  · have hx1 : x = 1 := by
      rcases hc with ⟨c, -⟩ | ⟨-, c1 | c1⟩
      · exact c
      · rw [hE] at c1; omega
      · rw [hE] at c1; exact absurd ((anyB_nz f g 65536).mp c1) hns
    have hl : E.length ≤ 60 := by rw [hE]; exact hl60
    obtain ⟨h1, o1, g1, m1, g2, g3, g4⟩ := result_ok hx he hl
    have p1 := stX_new m1 p
    have hE2 : E.map cutW = madeL f g := by rw [hE]; rfl
    rw [hE2] at g2
    obtain ⟨h2, g5, p2, m2, ⟨z1, z2⟩, z3⟩ := recS_X hL p1 hk g2
    have es : zI h2 s 6 = nI (madeL f g).length := by
      have o1' : o 1 = 101 := p.1.2.2.2.2.2.1
      have hs1 : s ≠ 1 := fun e => by have := (hx.1 0 (by omega)).2; rw [Nat.add_zero, e, o1'] at this; omega
      rw [z3 s 6 hs1, (m1.2.2 s (hx.1 0 (by omega)).1 (fun x => x)).2.2.1 6, he.1, ← hE2, List.length_map]
    rw [hx1, if_neg (by decide), hm, zbI_s]
    repeat (first | rw [f0] | rw [g1] | rw [g5] | rw [es] | rw [zlt_] | rw [zjn_] | rw [zob_s] | rw [zg_1] | rw [zbi_s] | rw [zbI_s] | rw [zbr_s] | rw [zbR_s] | rw [zbV_s] | rw [zbj_s] | rw [zbJ_s] | rw [zcs_s] | rw [zcs_n])
    exact ⟨_, h2, I', _, o1, _, n, w, S, fa, tr, rfl, rfl, p2, q2, ⟨recL_ok hL (hL.2.2 _ hL.1).1 (smU_ok (fun i hi => (hL.2.2 _ hL.1).2 i hi) hok), hst.2.1, hst.2.2⟩, by omega, by omega⟩
theorem i64_mul1 {x : Int32} (b : Int32) (hb : b = 1 ∨ b = -1) (hx : -1000000 ≤ x.toInt ∧ x.toInt ≤ 1000000) : (b * x).toInt64 = b.toInt64 * x.toInt64 := by
  apply Int64.toInt_inj.mp
  rw [Int32.toInt_toInt64, Int64.toInt_mul, Int32.toInt_toInt64, Int32.toInt_toInt64, Int32.toInt_mul]
  rcases hb with rfl | rfl
  · rw [show (1 : Int32).toInt = 1 from rfl, Int.one_mul, Int.bmod_eq_of_le (by omega) (by omega), Int.bmod_eq_of_le (by omega) (by omega)]
  · rw [show (-1 : Int32).toInt = -1 from rfl, Int.neg_one_mul, Int.bmod_eq_of_le (by omega) (by omega), Int.bmod_eq_of_le (by omega) (by omega)]
theorem cR_ct {l : List Wd} (hl : ∀ w ∈ l, wOk w) (b : Int32) (hb : b = 1 ∨ b = -1) : cR b l = ctR b.toInt64 l ∧ cI b l = ctI b.toInt64 l := by
  refine ⟨List.map_congr_left (fun w hw => ?_), List.map_congr_left (fun w hw => ?_)⟩
  · rw [i64_mul1 b hb ⟨(hl w hw).2.1, (hl w hw).2.2.1⟩]
  · rw [i64_mul1 b hb ⟨(hl w hw).2.2.2.1, (hl w hw).2.2.2.2⟩]
theorem ct1 (l : List Wd) : ctR 1 l = c1R l ∧ ctI 1 l = c1I l := by
  refine ⟨List.map_congr_left (fun w hw => ?_), List.map_congr_left (fun w hw => ?_)⟩
  · rw [Int64.one_mul]
  · rw [Int64.one_mul]
theorem z0f_lt (f : Nat → Int64) {x : Nat} (hx : x < 65536) : z0f f 65536 x = 0 := if_pos hx
theorem nz_eq {f g f' g' : Nat → Int64} : ∀ n, (∀ x, x < n → f x = f' x ∧ g x = g' x) → nz f g n = nz f' g' n
  | 0, _ => rfl
  | n + 1, h => by
    obtain ⟨h1, h2⟩ := h n (by omega)
    have ih := nz_eq n (fun x hx => h x (by omega))
    unfold nz
    rw [h1, h2, ih]
/-- sums that agree at every key -/
theorem E_nz {E : List (Nat × Int64 × Int64)} {f g : Nat → Int64} (hs : eS E) (h : ∀ x, x < 65536 → sAt (eR E) x = f x ∧ sAt (eI E) x = g x) : E = nz f g 65536 := nz_unique 65536 E f g hs.1 hs.2 h
/-- one sum and so many times another, in both -/
theorem merge_both {f0 g0 : Nat → Int64} {s pp qq nn k : Nat} {a b : Nat} {A B : List Wd} (t : Int64) (hk : k < 4) (p : stX SC h o L n w S fa tr) (q : stM I L n w S fa tr) (hst : stOk L n w S) (e8 : zR h 0 8 = some s) (hx : mxS h o s pp qq nn) (sa : sumX h o a A) (sb : sumX h o b B) (hA : A.length ≤ 60) (hB : B.length ≤ 60) (pA : A.Pairwise (fun v w => v.1 < w.1)) (pB : B.Pairwise (fun v w => v.1 < w.1)) (kA : ∀ w ∈ A, w.1 < 65536) (kB : ∀ w ∈ B, w.1 < 65536) (b1 : zN h ≤ zN h0 + 30) (b2 : zS h ≤ zS h0 + 9000) (hf : ∀ x, x < 65536 → f0 x = sAt (c1R A) x + sAt (ctR t B) x) (hg : ∀ x, x < 65536 → g0 x = sAt (c1I A) x + sAt (ctI t B) x) : stG SC (zbV (gX3_merge h s (some a) (some b) t) (fun h3 => zbI (gX11_keep h3 0 (nI k) (some s)) (fun x h1 => some (x, h1)))) (zbI (gX12_putOrSpent (mH I (wJ J f0 g0)) 0 (nI k)) (fun x h1 => some (x, h1))) h0 := by
  obtain ⟨h', E, g1, m1, e1, -, e3, e4⟩ := merge_ok hx sa sb hA hB pA pB kA kB t
  have ho : ∀ a, a < 5 → o (s + a) = 3 := fun a ha => (hx.1 a ha).2
  obtain ⟨p1, e8'⟩ := stX_mix (m1.mv ho) e8 (hx.mv m1) p
  rw [g1, zbV_s]
  exact keep_both hk p1 q hst e8' (hx.mv m1) e1 (E_nz e3 (fun x hx => ⟨(e4 x).1.trans (hf x hx).symm, (e4 x).2.trans (hg x hx).symm⟩)) (by rw [m1.1.1]; exact b1) (by rw [m1.1.2]; exact b2)
theorem ofOne_ok (h : Zh) (o : Nat → Nat) (key : Nat) (re im : Int32) : ∃ h' o', gX8_ofOne h (nI key) re im = some (some (zN h), h') ∧ zMv (fun _ => False) h o h' o' ∧ sumX h' o' (zN h) [(key, re, im)] ∧ zN h' = zN h + 4 ∧ zS h' = zS h + 6 := by
  have z1 : zok 1 = true := by decide
  have x1 : zx 1 = 1 := by decide
  have x0 : zx 0 = 0 := by decide
  let o4 : Nat → Nat := fun a => if zN h ≤ a then 1 else o a
  let b4 := zA (zA (zA (zA h 8 3) 20 1) 20 1) 20 1
  let b5 := zsR (zsR (zsR b4 (zN h) 0 (some (zN h + 1))) (zN h) 1 (some (zN h + 2))) (zN h) 2 (some (zN h + 3))
  have hL : zL b5 (zN h + 1) = 1 ∧ zL b5 (zN h + 2) = 1 ∧ zL b5 (zN h + 3) = 1 := by
    refine ⟨?_, ?_, ?_⟩
    · show zL (zA (zA (zA (zA h 8 3) 20 1) 20 1) 20 1) (zN h + 1) = 1
      rw [zA_L (by rw [zA_N, zA_N, zA_N]; omega), zA_L (by rw [zA_N, zA_N]; omega)]
      exact zA_Ln (zA h 8 3) 20 1
    · show zL (zA (zA (zA (zA h 8 3) 20 1) 20 1) 20 1) (zN h + 2) = 1
      rw [zA_L (by rw [zA_N, zA_N, zA_N]; omega)]
      exact zA_Ln (zA (zA h 8 3) 20 1) 20 1
    · exact zA_Ln (zA (zA (zA h 8 3) 20 1) 20 1) 20 1
  have gi : gX8_init b4 (zN h) (some (zN h + 1)) (some (zN h + 2)) (some (zN h + 3)) = some b5 := rfl
  have r0 : zR b5 (zN h) 0 = some (zN h + 1) := by simp [b5, zR_s]
  have r1 : zR b5 (zN h) 1 = some (zN h + 2) := by simp [b5, zR_s]
  have r2 : zR b5 (zN h) 2 = some (zN h + 3) := by simp [b5, zR_s]
  have i1 : zin 0 1 = true := by decide
  have m : zMv (fun _ => False) h o b4 o4 := by
    have m' : zMv (fun _ => False) h o b4 _ := (((zMv.A (t := 8) (n := 3) 1).tr (zMv.A (t := 20) (n := 1) 1)).tr (zMv.A (t := 20) (n := 1) 1)).tr (zMv.A (t := 20) (n := 1) 1)
    exact ⟨m'.1, fun a ha => if_neg (by omega), m'.2.2⟩
  have m5 : zMv (fun _ => False) h o b5 o4 := ((m.nR (Nat.le_refl _)).nR (Nat.le_refl _)).nR (Nat.le_refl _)
  refine ⟨zsI (zsI (zsI b5 (zN h + 1) 0 (nI key)) (zN h + 2) 0 re) (zN h + 3) 0 im, o4, ?_, ((m5.nI (by omega)).nI (by omega)).nI (by omega), ⟨⟨?_, if_pos (Nat.le_refl _)⟩, zN h + 1, zN h + 2, zN h + 3, ⟨r0, r1, r2⟩, ⟨⟨?_, if_pos (by omega)⟩, ⟨?_, if_pos (by omega)⟩, ⟨?_, if_pos (by omega)⟩⟩, hL, fun i w hw => ?_⟩, rfl, rfl⟩
  · unfold gX8_ofOne
    have nn : ∀ (t k : Nat) (g : Zh), zN (zA g t k) = zN g + 1 := fun t k g => rfl
    repeat (first | rw [z1] | rw [x1] | rw [x0] | rw [zlt_] | rw [zjn_] | rw [zob_s] | rw [zg_1] | rw [zbi_s] | rw [zbI_s] | rw [zbr_s] | rw [zbR_s] | rw [zbV_s] | rw [zbj_s] | rw [zbJ_s] | rw [zcs_s] | rw [zcs_n])
    show zbV (gX8_init b4 (zN h) (some (zN h + 1)) (some (zN h + 2)) (some (zN h + 3))) _ = _
    repeat (first | rw [gi] | rw [r0] | rw [hL.1] | rw [i1] | rw [x0] | rw [zR_sI] | rw [zL_sI] | rw [r1] | rw [hL.2.1] | rw [r2] | rw [hL.2.2] | rw [zlt_] | rw [zjn_] | rw [zob_s] | rw [zg_1] | rw [zbi_s] | rw [zbI_s] | rw [zbr_s] | rw [zbR_s] | rw [zbV_s] | rw [zbj_s] | rw [zbJ_s] | rw [zcs_s] | rw [zcs_n])
  · show zN h < zN h + 4
    omega
  · show zN h + 1 < zN h + 4
    omega
  · show zN h + 2 < zN h + 4
    omega
  · show zN h + 3 < zN h + 4
    omega
  · cases i with
    | zero =>
      obtain rfl : (key, re, im) = w := Option.some.inj hw
      refine ⟨?_, ?_, ?_⟩ <;> simp [zI_s]
    | succ i => cases hw
theorem or256 {x z : Nat} (hz : z < 256) : x * 256 ||| z = 256 * x + z := by
  have := Nat.two_pow_add_eq_or_of_lt (i := 8) (b := z) (by omega) x
  rw [Nat.mul_comm]
  exact this.symm
theorem add_st (p : stX SC h o L n w S fa tr) (q : stM I L n w S fa tr) (hst : stOk L n w S) (x1 x2 x3 x4 x5 : Int32) : stG SC (gX11_add h 0 x1 x2 x3 x4 x5) (gX12_add (mH I J) 0 x1 x2 x3 x4 x5) h := by
  have hL := hst.1
  unfold gX11_add gX12_add
  rw [noSumX, zbi_s, noSumM, zbi_s]
  by_cases h1 : inR x1 4
  · rw [if_pos h1, if_pos rfl, if_pos rfl, in_R x2 255 256 rfl, zbi_s, in_R x3 255 256 rfl]
    have hif : ∀ (u v : Option (Int32 × Zh)), (if x2 < 0 then v else if 255 < x2 then v else if x3 < 0 then v else if x3 ≤ 255 then u else v) = if inR x2 256 ∧ inR x3 256 then u else v := by
      intro u v
      have e1 := i_lt0 x2
      have e2 : 255 < x2 ↔ 255 < x2.toInt := Int32.lt_iff_toInt_lt
      have e3 := i_lt0 x3
      have e4 : x3 ≤ 255 ↔ x3.toInt ≤ 255 := Int32.le_iff_toInt_le
      simp only [e1, e2, e3, e4]
      by_cases hC : inR x2 256 ∧ inR x3 256
      · rw [if_pos hC]
        repeat' split
        all_goals first | rfl | (exfalso; omega)
      · rw [if_neg hC]
        repeat' split
        all_goals first | rfl | (exfalso; omega)
    rw [hif]
    by_cases h2 : inR x2 256
    · rw [if_pos h2, if_neg (show ¬ (1 : Int32) = 0 by decide), zbi_s]
      by_cases h3 : inR x3 256
      · rw [if_pos ⟨h2, h3⟩, if_pos h3, if_neg (show ¬ (1 : Int32) = 0 by decide)]
        obtain ⟨k, hk, rfl⟩ := inR_f h1
        obtain ⟨x, hx, rfl⟩ := inR_f h2
        obtain ⟨z, hz, rfl⟩ := inR_f h3
        have ek : (nI x <<< ((8 : Int32) &&& 31)) ||| nI z = nI (256 * x + z) := by rw [nI_o 8, nI_shl (by omega), nI_or, or256 hz]
        have ek2 : (256 * nI x) + nI z = nI (256 * x + z) := by rw [nI_o 256, pk_mul, nI_add]
        obtain ⟨h1', o1, s, pp, qq, nn, g1, p1, e8, hx1, mw, bN, bS⟩ := wordRows_ok p
        obtain ⟨a, ga, sa⟩ := sumNow_ok hL p1 hk
        obtain ⟨h2', o2, g2, m2, sb, bN2, bS2⟩ := ofOne_ok h1' o1 (256 * x + z) x4 x5
        have p2 := stX_new m2 p1
        have f0 : zR h1' 0 0 = some 1 := p1.1.1.1
        have sa2 := sa.mv m2 (fun x => x)
        have hx2 : mxS h2' o2 s pp qq nn := by
          obtain ⟨y1, y2, y3, y4, y5, ⟨y6, y7⟩, ⟨l1, l2, l3, l4⟩, ⟨l5, l6⟩, y9⟩ := hx1
          have ea : ∀ a, a < zN h1' → zAt h1' h2' a := fun a ha => m2.2.2 a ha (fun x => x)
          have es := ea s (y1 0 (by omega)).1
          exact ⟨fun a ha => ⟨Nat.lt_of_lt_of_le (y1 a ha).1 m2.1, (m2.2.1 _ (y1 a ha).1).trans (y1 a ha).2⟩, ⟨Nat.lt_of_lt_of_le y2.1 m2.1, (m2.2.1 _ y2.1).trans y2.2⟩, ⟨Nat.lt_of_lt_of_le y3.1 m2.1, (m2.2.1 _ y3.1).trans y3.2⟩, y4, fun a ha => (es.2.2.2.2 a).trans (y5 a ha), ⟨(es.2.2.2.2 4).trans y6, (es.2.2.2.2 5).trans y7⟩, ⟨(ea _ (y1 1 (by omega)).1).2.1.trans l1, (ea _ (y1 2 (by omega)).1).2.1.trans l2, (ea _ (y1 3 (by omega)).1).2.1.trans l3, (ea _ (y1 4 (by omega)).1).2.1.trans l4⟩, ⟨(ea _ y2.1).2.1.trans l5, (ea _ y3.1).2.1.trans l6⟩, y9⟩
        have e82 : zR h2' 0 8 = some s := ((m2.2.2 0 (by have := p1.1.2.2.2.1; omega) (fun x => x)).2.2.2.2 8).trans e8
        have hA := (hL.2.2 _ hL.1).2 k hk
        have hwA : ∀ v ∈ L.2.1 L.2.2.1 k, v.1 < 65536 := fun v hv => (hA.2.2 v hv).1
        have hk65 : 256 * x + z < 65536 := by omega
        repeat (first | rw [ek] | rw [g1] | rw [f0] | rw [ga] | rw [g2] | rw [startSum_ok I J] | rw [takeSum_ok (show k < 5 by omega) hA.1 hwA (q.1.2.2 k hk) J (z0f (J 27) 65536) (z0f (J 28) 65536) 1] | rw [mR_33] | rw [mR_34] | rw [ek2] | rw [min_ (mL_27 _ _) hk65 (by omega)] | rw [min_ (mL_28 _ _) hk65 (by omega)] | rw [zx_nI (show 256 * x + z < 2 ^ 31 by omega)] | rw [msJ] | rw [mJ_] | rw [wJ_27] | rw [wJ_28] | rw [wJ_u27] | rw [wJ_u28] | rw [aL_snoc] | rw [zlt_] | rw [zjn_] | rw [zob_s] | rw [zg_1] | rw [zbi_s] | rw [zbI_s] | rw [zbr_s] | rw [zbR_s] | rw [zbV_s] | rw [zbj_s] | rw [zbJ_s] | rw [zcs_s] | rw [zcs_n])
        have hc1 := cR_ct hA.2.2 1 (Or.inl rfl)
        have hct := ct1 (L.2.1 L.2.2.1 k)
        refine merge_both (B := [(256 * x + z, x4, x5)]) 1 hk p2 q hst e82 hx2 sa2 sb hA.1 (by simp) hA.2.1 (List.pairwise_singleton _ _) hwA (fun v hv => by rw [List.mem_singleton] at hv; subst hv; exact hk65) (by omega) (by omega) (fun y hy => ?_) (fun y hy => ?_)
        · show z0f (J 27) 65536 y + sAt (cR 1 _ ++ [(256 * x + z, x4.toInt64)]) y = _
          rw [z0f_lt _ hy, sAt_app, hc1.1, show (1 : Int32).toInt64 = 1 from rfl, hct.1]
          show 0 + (_ + ((if 256 * x + z = y then x4.toInt64 else 0) + 0)) = _ + ((if 256 * x + z = y then 1 * x4.toInt64 else 0) + 0)
          rw [Int64.one_mul]; grind
        · show z0f (J 28) 65536 y + sAt (cI 1 _ ++ [(256 * x + z, x5.toInt64)]) y = _
          rw [z0f_lt _ hy, sAt_app, hc1.2, show (1 : Int32).toInt64 = 1 from rfl, hct.2]
          show 0 + (_ + ((if 256 * x + z = y then x5.toInt64 else 0) + 0)) = _ + ((if 256 * x + z = y then 1 * x5.toInt64 else 0) + 0)
          rw [Int64.one_mul]; grind
      · rw [if_neg (fun hh => h3 hh.2), if_neg h3, if_pos rfl]
        exact stG_0 p q hst _
    · rw [if_neg (fun hh => h2 hh.1), if_neg h2, if_pos rfl]
      exact stG_0 p q hst _
  · rw [if_neg h1, if_neg (by decide), if_neg (by decide)]
    exact stG_0 p q hst _
end Ops
