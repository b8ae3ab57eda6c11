/-! the mixer made, what it made kept; add, and sums joined by adding -/
theorem anyB_nz (f g : Nat → Int64) : ∀ n, anyB (nz f g n) ↔ spent f g n
  | 0 => ⟨fun ⟨c, hc, _⟩ => (by cases hc), fun ⟨w, hw, _⟩ => (by omega)⟩
  | n + 1 => by
    have ih := anyB_nz f g n
    have hz : ¬ bigJ 0 := by unfold bigJ; decide
    have hs : spent f g (n + 1) ↔ spent f g n ∨ (bigJ (f n) ∨ bigJ (g n)) := by
      constructor
      · rintro ⟨w, hw, hb⟩
        rcases (show w = n ∨ w < n by omega) with rfl | h
        · exact Or.inr hb
        · exact Or.inl ⟨w, h, hb⟩
      · rintro (⟨w, hw, hb⟩ | hb)
        · exact ⟨w, by omega, hb⟩
        · exact ⟨n, by omega, hb⟩
    rw [hs]
    unfold nz
    by_cases h : f n = 0 ∧ g n = 0
    · rw [if_pos h, ih, h.1, h.2]
      exact ⟨Or.inl, fun hh => hh.elim id (fun hb => hb.elim (fun hb => absurd hb hz) (fun hb => absurd hb hz))⟩
    · rw [if_neg h]
      constructor
      · rintro ⟨c, hc, hb⟩
        rcases List.mem_append.mp hc with hc | hc
        · exact Or.inl (ih.mp ⟨c, hc, hb⟩)
        · rw [List.mem_singleton] at hc
          subst hc
          exact Or.inr hb
      · rintro (hs | hb)
        · obtain ⟨c, hc, hb⟩ := ih.mpr hs
          exact ⟨c, List.mem_append_left _ hc, hb⟩
        · exact ⟨_, List.mem_append_right _ (List.mem_singleton.mpr rfl), hb⟩
theorem copyOf_ok {h : Zh} {o : Nat → Nat} {r m : Nat} (hr : r < zN h) (hl : zL h r = 60) (hm : m ≤ 60) : ∃ h', gJ7_copyOf_59c91 h (some r) (nI m) = some (some (zN h), h') ∧ zMv (fun _ => False) h o h' (oA h o 1) ∧ zL h' (zN h) = m ∧ (∀ i, i < m → zI h' (zN h) i = zI h r i) ∧ zN h' = zN h + 1 ∧ zS h' = zS h + m := by
  have hmv : ∀ (k c : Nat), zMv (fun _ => False) h o (zcI (zA h 20 k) r 0 (zN h) 0 c) (oA h o 1) := fun k c => by
    have m0 : zMv (fun _ => False) h o (zA h 20 k) (oA h o 1) := zMv.A 1
    exact ⟨m0.1, m0.2.1, fun a ha ht => (m0.2.2 a ha ht).tr ⟨rfl, rfl, fun j => if_neg (fun (e : a = zN h) => by omega), fun _ => rfl, fun _ => rfl⟩⟩
  have hv : ∀ (k c i : Nat), i < c → zI (zcI (zA h 20 k) r 0 (zN h) 0 c) (zN h) i = zI h r i := fun k c i hi => by
    show (if zN h = zN h then va_cpy (zI (zA h 20 k) r) (zI (zA h 20 k) (zN h)) 0 0 c i else _) = _
    rw [if_pos rfl]
    unfold va_cpy
    rw [if_pos (by omega), Nat.zero_add, Nat.sub_zero, zA_I (by omega)]
  unfold gJ7_copyOf_59c91
  rw [zob_s, hl]
  by_cases h60 : m = 60
  · subst h60
    rw [if_pos (show nI 60 = Int32.ofNat 60 from rfl), zlt_, zlt_]
    exact ⟨_, rfl, hmv 60 60, zA_Ln h 20 60, fun i hi => hv 60 60 i hi, rfl, rfl⟩
  · have hne : ¬ nI m = Int32.ofNat 60 := fun e => h60 ((nI_inj (b := 60) (by omega) (by omega)).mp e)
    have okm : zok (nI m) = true := by
      unfold zok
      rw [show (nI m).toNatClampNeg = m from zx_nI (by omega), decide_eq_true (nI_pos (by omega)), decide_eq_true (show m ≤ 60000000 by omega)]; rfl
    have xm : zx (nI m) = m := zx_nI (by omega)
    have hmin : gJ9_min_7cf53 (Int32.ofNat (zL (zA h 20 m) r)) (nI m) = some (nI m) := by
      unfold gJ9_min_7cf53
      rw [zA_L (by omega), hl, if_pos (show nI m < Int32.ofNat 60 from nI_lt (b := 60) (by omega) (by decide))]
    have hcp : zcp (zA h 20 m) r 0 (zN h) 0 (nI m) = true := by
      unfold zcp
      rw [xm, zA_L (by omega), hl, zA_Ln, decide_eq_true (nI_pos (show m < 2 ^ 31 by omega)), show zx 0 = 0 from by decide, decide_eq_true (show 0 + m ≤ 60 by omega), decide_eq_true (show 0 + m ≤ m by omega)]
      rfl
    rw [if_neg hne]
    repeat (first | rw [okm] | rw [xm] | rw [hmin] | rw [hcp] | rw [(show zx 0 = 0 from by decide)] | rw [zlt_] | rw [zjn_] | rw [zob_s] | rw [zg_1] | rw [zbi_s] | rw [zbI_s] | rw [zbr_s] | rw [zbR_s] | rw [zbV_s] | rw [zbj_s] | rw [zbJ_s] | rw [zcs_s] | rw [zcs_n])
    exact ⟨_, rfl, hmv m m, zA_Ln h 20 m, fun i hi => hv m m i hi, rfl, rfl⟩
theorem result_ok {h : Zh} {o : Nat → Nat} {s p q n : Nat} (hx : mxS h o s p q n) {E : List (Nat × Int64 × Int64)} (he : mxE h s E) (hl : E.length ≤ 60) : ∃ h' o', gX3_result h s = some (some (zN h), h') ∧ zMv (fun _ => False) h o h' o' ∧ sumX h' o' (zN h) (E.map cutW) ∧ zN h' = zN h + 4 ∧ zS h' ≤ zS h + 183 := by
  obtain ⟨e1, -, e3⟩ := he
  have hsN := fun a ha => (hx.1 a ha).1
  have hmin : gJ9_min_7cf53 (nI E.length) 60 = some (nI E.length) := by
    unfold gJ9_min_7cf53
    rw [if_neg (show ¬ (60 : Int32) < nI E.length from nI_nlt (a := 60) hl (by decide))]
  obtain ⟨l1, l2, l3, -⟩ := hx.2.2.2.2.2.2.1
  have hm1 : zMv (fun _ => False) h o (zA h 8 3) (oA h o 1) := zMv.A 1
  have s1 := hsN 1 (by omega)
  have s2 := hsN 2 (by omega)
  have s3 := hsN 3 (by omega)
  have s0 := hsN 0 (by omega)
  obtain ⟨h2, g2, m2, k2, v2, n2, z2⟩ := copyOf_ok (h := zA h 8 3) (o := oA h o 1) (r := s + 1) (m := E.length) (by rw [zA_N]; omega) (by rw [zA_L (by omega)]; exact l1) hl
  have M2 := hm1.tr m2
  obtain ⟨h3, g3, m3, k3, v3, n3, z3⟩ := copyOf_ok (h := h2) (o := oA (zA h 8 3) (oA h o 1) 1) (r := s + 2) (m := E.length) (by rw [n2, zA_N]; omega) (by rw [(M2.2.2 _ s2 (fun x => x)).2.1]; exact l2) hl
  have M3 := M2.tr m3
  obtain ⟨h4, g4, m4, k4, v4, n4, z4⟩ := copyOf_ok (h := h3) (o := oA h2 (oA (zA h 8 3) (oA h o 1) 1) 1) (r := s + 3) (m := E.length) (by rw [n3, n2, zA_N]; omega) (by rw [(M3.2.2 _ s3 (fun x => x)).2.1]; exact l3) hl
  have M4 := M3.tr m4
  have nA : zN (zA h 8 3) = zN h + 1 := rfl
  have sA : zS (zA h 8 3) = zS h + 3 := rfl
  have r0 : zR (zA h 8 3) s 0 = some (s + 1) := (zA_R (by omega)).trans (hx.2.2.2.2.1 0 (by omega))
  have r1 : zR h2 s 1 = some (s + 2) := ((M2.2.2 s (by omega) (fun x => x)).2.2.2.2 1).trans (hx.2.2.2.2.1 1 (by omega))
  have r2 : zR h3 s 2 = some (s + 3) := ((M3.2.2 s (by omega) (fun x => x)).2.2.2.2 2).trans (hx.2.2.2.2.1 2 (by omega))
  let o4 := oA h3 (oA h2 (oA (zA h 8 3) (oA h o 1) 1) 1) 1
  refine ⟨zsR (zsR (zsR h4 (zN h) 0 (some (zN (zA h 8 3)))) (zN h) 1 (some (zN h2))) (zN h) 2 (some (zN h3)), o4, ?_, ((M4.nR (Nat.le_refl _)).nR (Nat.le_refl _)).nR (Nat.le_refl _), ?_, ?_, ?_⟩
  · unfold gX3_result
    have gi : gX8_init h4 (zN h) (some (zN (zA h 8 3))) (some (zN h2)) (some (zN h3)) = some (zsR (zsR (zsR h4 (zN h) 0 (some (zN (zA h 8 3)))) (zN h) 1 (some (zN h2))) (zN h) 2 (some (zN h3))) := rfl
    repeat (first | rw [e1] | rw [hmin] | rw [r0] | rw [g2] | rw [r1] | rw [g3] | rw [r2] | rw [g4] | rw [gi] | rw [zlt_] | rw [zjn_] | rw [zob_s] | rw [zg_1] | rw [zbi_s] | rw [zbI_s] | rw [zbr_s] | rw [zbR_s] | rw [zbV_s] | rw [zbj_s] | rw [zbJ_s] | rw [zcs_s] | rw [zcs_n])
  · have oz : ∀ a, zN h ≤ a → a < zN h + 4 → o4 a = 1 := fun a ha hb => by
      show (if a = zN h3 then 1 else if a = zN h2 then 1 else if a = zN (zA h 8 3) then 1 else if a = zN h then 1 else o a) = 1
      split
      · rfl
      · split
        · rfl
        · split
          · rfl
          · rw [if_pos (by omega)]
    have Lk : ∀ a, a < zN h2 → zL h4 a = zL h2 a := fun a ha => ((m3.tr m4).2.2 a ha (fun x => x)).2.1
    have Ik : ∀ a i, a < zN h2 → zI h4 a i = zI h2 a i := fun a i ha => ((m3.tr m4).2.2 a ha (fun x => x)).2.2.1 i
    have Lk3 : ∀ a, a < zN h3 → zL h4 a = zL h3 a := fun a ha => (m4.2.2 a ha (fun x => x)).2.1
    have Ik3 : ∀ a i, a < zN h3 → zI h4 a i = zI h3 a i := fun a i ha => (m4.2.2 a ha (fun x => x)).2.2.1 i
    refine ⟨⟨?_, oz _ (by omega) (by omega)⟩, zN (zA h 8 3), zN h2, zN h3, ⟨?_, ?_, ?_⟩, ⟨⟨?_, oz _ (by omega) (by omega)⟩, ⟨?_, oz _ (by omega) (by omega)⟩, ⟨?_, oz _ (by omega) (by omega)⟩⟩, ⟨?_, ?_, ?_⟩, fun i w hw => ?_⟩
    · show zN h < zN h4
      omega
    · rw [zR_s, if_neg (by omega), zR_s, if_neg (by omega), zR_se]
    · rw [zR_s, if_neg (by omega), zR_se]
    · rw [zR_se]
    · show zN (zA h 8 3) < zN h4
      omega
    · show zN h2 < zN h4
      omega
    · show zN h3 < zN h4
      omega
    · show zL h4 (zN (zA h 8 3)) = _
      rw [Lk _ (by omega), k2, List.length_map]
    · show zL h4 (zN h2) = _
      rw [Lk3 _ (by omega), k3, List.length_map]
    · show zL h4 (zN h3) = _
      rw [k4, List.length_map]
    · rw [List.getElem?_map] at hw
      obtain ⟨c, hc, rfl⟩ := Option.map_eq_some_iff.mp hw
      have hi := (List.getElem?_eq_some_iff.mp hc).1
      obtain ⟨c1, c2, c3⟩ := e3 i c hc (by omega)
      refine ⟨?_, ?_, ?_⟩
      · show zI h4 (zN (zA h 8 3)) i = _
        rw [Ik _ _ (by omega), v2 i hi, zA_I (by omega)]
        exact c1
      · show zI h4 (zN h2) i = _
        rw [Ik3 _ _ (by omega), v3 i hi, ((M2.2.2 _ s2 (fun x => x)).2.2.1 i)]
        exact c2
      · show zI h4 (zN h3) i = _
        rw [v4 i hi, ((M3.2.2 _ s3 (fun x => x)).2.2.1 i)]
        exact c3
  · show zN h4 = zN h + 4
    omega
  · show zS h4 ≤ zS h + 183
    omega
/-- rows made one behind another and written into fields of a cell -/
def mkR (s : Nat) : List (Nat × Nat) → Nat → Zh → Zh
  | [], _, h => h
  | (t, k) :: l, f, h => mkR s l (f + 1) (zsR (zA h t k) s f (some (zN h)))
def mkS : List (Nat × Nat) → Nat
  | [] => 0
  | c :: l => c.2 + mkS l
theorem mkR_ok (s : Nat) : ∀ (l : List (Nat × Nat)) (f : Nat) (h : Zh), s < zN h → (zN (mkR s l f h) = zN h + l.length ∧ zS (mkR s l f h) = zS h + mkS l) ∧ (∀ i c, l[i]? = some c → zR (mkR s l f h) s (f + i) = some (zN h + i) ∧ zL (mkR s l f h) (zN h + i) = c.2 ∧ (∀ k, zI (mkR s l f h) (zN h + i) k = 0 ∧ zJ (mkR s l f h) (zN h + i) k = 0 ∧ zR (mkR s l f h) (zN h + i) k = none)) ∧ (∀ a, a < zN h → zK (mkR s l f h) a = zK h a ∧ zL (mkR s l f h) a = zL h a ∧ (∀ k, zI (mkR s l f h) a k = zI h a k ∧ zJ (mkR s l f h) a k = zJ h a k ∧ ((a ≠ s ∨ k < f) → zR (mkR s l f h) a k = zR h a k) ∧ (f + l.length ≤ k → zR (mkR s l f h) a k = zR h a k)))
  | [], f, h, hs => ⟨⟨rfl, rfl⟩, fun i c hc => (by cases hc), fun a ha => ⟨rfl, rfl, fun k => ⟨rfl, rfl, fun _ => rfl, fun _ => rfl⟩⟩⟩
  | (t, k) :: l, f, h, hs => by
    obtain ⟨⟨ih1, ih2⟩, ih3, ih4⟩ := mkR_ok s l (f + 1) (zsR (zA h t k) s f (some (zN h))) (by show s < zN h + 1; omega)
    have hN : zN (zsR (zA h t k) s f (some (zN h))) = zN h + 1 := rfl
    have hS : zS (zsR (zA h t k) s f (some (zN h))) = zS h + k := rfl
    rw [hN] at ih1 ih3 ih4
    rw [hS] at ih2
    refine ⟨⟨?_, ?_⟩, fun i c hc => ?_, fun a ha => ?_⟩
    · show zN (mkR s l (f + 1) _) = _
      rw [ih1, List.length_cons]; omega
    · show zS (mkR s l (f + 1) _) = _
      rw [ih2]
      show _ = zS h + (k + mkS l)
      omega
    · cases i with
      | zero =>
        obtain rfl : (t, k) = c := Option.some.inj hc
        obtain ⟨j1, j2, j3⟩ := ih4 (zN h) (by omega)
        have j4 := ih4 s (by omega)
        refine ⟨?_, ?_, fun j => ⟨?_, ?_, ?_⟩⟩
        · show zR (mkR s l (f + 1) _) s f = some (zN h)
          rw [((j4.2.2 f).2.2.1 (Or.inr (by omega))), zR_se]
        · show zL (mkR s l (f + 1) _) (zN h) = k
          rw [j2]; exact zA_Ln h t k
        · show zI (mkR s l (f + 1) _) (zN h) j = 0
          rw [(j3 j).1]; exact zA_In h t k j
        · show zJ (mkR s l (f + 1) _) (zN h) j = 0
          rw [(j3 j).2.1]; exact zA_Jn h t k j
        · show zR (mkR s l (f + 1) _) (zN h) j = none
          rw [((j3 j).2.2.1 (Or.inl (by omega))), zR_s, if_neg (by omega)]; exact zA_Rn h t k j
      | succ i =>
        have hc : l[i]? = some c := hc
        obtain ⟨j1, j2, j3⟩ := ih3 i c hc
        have e1 : f + (i + 1) = f + 1 + i := by omega
        have e2 : zN h + (i + 1) = zN h + 1 + i := by omega
        rw [e1, e2]
        exact ⟨j1, j2, j3⟩
    · obtain ⟨j1, j2, j3⟩ := ih4 a (by omega)
      refine ⟨j1.trans (zA_K (t := t) (n := k) (by omega)), j2.trans (zA_L (t := t) (n := k) (by omega)), fun j => ⟨(j3 j).1.trans (zA_I (t := t) (n := k) (by omega)), (j3 j).2.1.trans (zA_J (t := t) (n := k) (by omega)), fun hh => ?_, fun hh => ?_⟩⟩
      · show zR (mkR s l (f + 1) _) a j = _
        rw [((j3 j).2.2.1 (by omega)), zR_s, if_neg (by omega)]; exact zA_R (by omega)
      · rw [List.length_cons] at hh
        show zR (mkR s l (f + 1) _) a j = _
        rw [((j3 j).2.2.2 (by omega)), zR_s, if_neg (by omega)]; exact zA_R (by omega)
section Ops
variable {SC : Ch → (Nat → Nat → Int32) → (Nat → Nat → Int64) → Prop} {h h' : Zh} {o o' : Nat → Nat} {L : Led} {n : Nat} {w : Nat → Wt} {S : Nat → Option Sh} {fa tr : Int32} {I : Nat → Nat → Int32} {J : Nat → Nat → Int64}
/-- works alone have changed -/
theorem stX.works {T : Nat → Prop} {fa' : Int32} (m : zMv T h o h' o') (hT : ∀ t, T t → t = 100 ∨ t = 3 ∨ t = 4 ∨ t = 5) (e : ∀ k, k < 6 → zR h' 0 k = zR h 0 k) (e4 : zI h' 0 4 = zI h 0 4) (e5 : zI h' 0 5 = fa') (e0 : zK h' 0 = zK h 0) (x1 : mixX h' o') (x2 : iceX h' o') (x3 : secX SC h' o') (p : stX SC h o L n w S fa tr) : stX SC h' o' L n w S fa' tr := by
  obtain ⟨p1, p2, p3, p4, ⟨p5, p6⟩, p7, p8, p9⟩ := p
  have nt : ∀ t, t ≠ 100 → t ≠ 3 → t ≠ 4 → t ≠ 5 → ¬ T t := fun t h1 h2 h3 h4 hh => by
    have := hT t hh
    omega
  obtain ⟨-, e1, e3, e4', e9, e10, e11⟩ := p1.at m
  have q1 : fixX h' o' := by
    obtain ⟨⟨r0, r1, r2, r3⟩, ⟨l0, l1, l2, l3⟩, ⟨l9, l10, k0⟩, hn, o0, o1, o3, o4, o9, o10, o11⟩ := p1
    have e1 := e1 (nt 101 (by decide) (by decide) (by decide) (by decide))
    have e3 := e3 (nt 103 (by decide) (by decide) (by decide) (by decide))
    have e4' := e4' (nt 104 (by decide) (by decide) (by decide) (by decide))
    have e9 := e9 (nt 109 (by decide) (by decide) (by decide) (by decide))
    have e10 := e10 (nt 110 (by decide) (by decide) (by decide) (by decide))
    exact ⟨⟨(e _ (by omega)).trans r0, (e _ (by omega)).trans r1, (e _ (by omega)).trans r2, (e _ (by omega)).trans r3⟩, ⟨(e1.2.2.2.2 _).trans l0, (e1.2.2.2.2 _).trans l1, e3.2.1.trans l2, e4'.2.1.trans l3⟩, ⟨e9.2.1.trans l9, e10.2.1.trans l10, e0.trans k0⟩, Nat.le_trans hn m.1, (m.2.1 _ (by omega)).trans o0, (m.2.1 _ (by omega)).trans o1, (m.2.1 _ (by omega)).trans o3, (m.2.1 _ (by omega)).trans o4, (m.2.1 _ (by omega)).trans o9, (m.2.1 _ (by omega)).trans o10, (m.2.1 _ (by omega)).trans o11⟩
  exact ⟨q1, p2.mv m p1 (nt _ (by decide) (by decide) (by decide) (by decide)) (nt _ (by decide) (by decide) (by decide) (by decide)) (nt _ (by decide) (by decide) (by decide) (by decide)) (nt _ (by decide) (by decide) (by decide) (by decide)), p3.mv m p1 (nt _ (by decide) (by decide) (by decide) (by decide)) (nt _ (by decide) (by decide) (by decide) (by decide)) e4, p4.mv m p1 (nt _ (by decide) (by decide) (by decide) (by decide)) (nt _ (by decide) (by decide) (by decide) (by decide)) (fun k hk => nt _ (by omega) (by omega) (by omega) (by omega)), ⟨e5, ((e11 (nt _ (by decide) (by decide) (by decide) (by decide))).2.2.1 0).trans p6⟩, x1, x2, x3⟩
theorem mxS.mix {s p q k : Nat} (e : zR h 0 8 = some s) (x : mxS h o s p q k) : mixX h o := by
  obtain ⟨x1, x2, x3, x4, x5, x6, x7, x8, x9⟩ := x
  exact Or.inr ⟨s, p, q, k, e, x1, x2, x3, x4, x5, x6, x7, x8, x9⟩
/-- the mixer has worked -/
theorem stX_mix {s p q k : Nat} (m : zMv (fun t => t = 3) h o h' o') (e : zR h 0 8 = some s) (x : mxS h' o' s p q k) (pp : stX SC h o L n w S fa tr) : stX SC h' o' L n w S fa tr ∧ zR h' 0 8 = some s := by
  obtain ⟨e0, -⟩ := pp.1.at m
  have f0 := e0 (by omega)
  have e8 : zR h' 0 8 = some s := (f0.2.2.2.2 8).trans e
  exact ⟨pp.works m (fun t ht => Or.inr (Or.inl ht)) (fun k _ => f0.2.2.2.2 k) (f0.2.2.1 4) ((f0.2.2.1 5).trans pp.2.2.2.2.1.1) f0.1 (x.mix e8) (pp.2.2.2.2.2.2.1.mv m (by omega) (f0.2.2.2.2 7)) (pp.2.2.2.2.2.2.2.mv m (by omega) (by omega) (f0.2.2.2.2 6)), e8⟩
theorem wordRows_ok (p : stX SC h o L n w S fa tr) : ∃ h' o' s pp qq nn, gX11_wordRows h 0 = some (some s, h') ∧ stX SC h' o' L n w S fa tr ∧ zR h' 0 8 = some s ∧ mxS h' o' s pp qq nn ∧ zMv (fun t => t = 100) h o h' o' ∧ zN h' ≤ zN h + 7 ∧ zS h' ≤ zS h + 575 := by
  have hJ : ∀ g, gX11_wordRows_J1 0 g = some (zR g 0 8, g) := fun g => rfl
  unfold gX11_wordRows
  rw [zlt_, zjn_]
  rcases p.2.2.2.2.2.1 with hn | ⟨s, pp, qq, nn, e, x⟩
  · rw [hn, zcs_n]
    have o0 : o 0 = 100 := p.1.2.2.2.2.1
    have hN := p.1.2.2.2.1
    have ok60 : zok 60 = true := by decide
    have ok257 : zok 257 = true := by decide
    have ok64 : zok 64 = true := by decide
    have x60 : zx 60 = 60 := by decide
    have x257 : zx 257 = 257 := by decide
    have x64 : zx 64 = 64 := by decide
    let b0 := zA h 3 10
    let rows : List (Nat × Nat) := [(20, 60), (20, 60), (20, 60), (20, 257), (20, 64), (20, 64)]
    let b6 := mkR (zN h) rows 0 b0
    let b7 := zsJ (zsJ (zsI (zsI b6 (zN h) 6 0) (zN h) 7 0) (zN h) 8 0) (zN h) 9 0
    have hini : gX3_init b0 (zN h) = some b7 := by
      unfold gX3_init
      repeat (first | rw [ok60] | rw [ok257] | rw [ok64] | rw [x60] | rw [x257] | rw [x64] | rw [zlt_] | rw [zjn_] | rw [zob_s] | rw [zg_1] | rw [zbi_s] | rw [zbI_s] | rw [zbr_s] | rw [zbR_s] | rw [zbV_s] | rw [zbj_s] | rw [zbJ_s] | rw [zcs_s] | rw [zcs_n])
      rfl
    obtain ⟨⟨c1, c2⟩, c3, c4⟩ := mkR_ok (zN h) rows 0 b0 (by show zN h < zN h + 1; omega)
    have hb0 : zN b0 = zN h + 1 := rfl
    let o1 : Nat → Nat := fun a => if zN h ≤ a then 3 else o a
    have ho1 : ∀ a, a < zN h → o1 a = o a := fun a ha => if_neg (by omega)
    have nb : zN b7 = zN h + 7 := c1
    have sb : zS b7 = zS h + 575 := c2
    have hI7 : ∀ a k, a ≠ zN h → zI b7 a k = zI b6 a k := fun a k ha => by
      show zI (zsI (zsI b6 (zN h) 6 0) (zN h) 7 0) a k = _
      rw [zI_s, if_neg (by omega), zI_s, if_neg (by omega)]
    have hJ7 : ∀ a k, a ≠ zN h → zJ b7 a k = zJ b6 a k := fun a k ha => by
      rw [zJ_s, if_neg (by omega), zJ_s, if_neg (by omega)]; rfl
    have mAll : zMv (fun _ => False) h o b7 o1 := by
      refine ⟨by omega, ho1, fun a ha _ => ?_⟩
      obtain ⟨d1, d2, d3⟩ := c4 a (by omega)
      exact ⟨d1.trans (zA_K (t := 3) (n := 10) (by omega)), d2.trans (zA_L (t := 3) (n := 10) (by omega)), fun k => (hI7 a k (by omega)).trans ((d3 k).1.trans (zA_I (t := 3) (n := 10) (by omega))), fun k => (hJ7 a k (by omega)).trans ((d3 k).2.1.trans (zA_J (t := 3) (n := 10) (by omega))), fun k => ((d3 k).2.2.1 (Or.inl (by omega))).trans (zA_R (t := 3) (n := 10) (by omega))⟩
    have hx : mxS (zsR b7 0 8 (some (zN h))) o1 (zN h) (zN h + 5) (zN h + 6) 64 := by
      have on : ∀ a, zN h ≤ a → o1 a = 3 := fun a ha => if_pos ha
      have h0 : ∀ k, zR (zsR b7 0 8 (some (zN h))) (zN h) k = zR b6 (zN h) k := fun k => by rw [zR_s, if_neg (by omega)]; rfl
      have hR : ∀ k c, rows[k]? = some c → zR b6 (zN h) k = some (zN h + 1 + k) ∧ zL b6 (zN h + 1 + k) = c.2 := fun k c hc => by
        obtain ⟨d1, d2, -⟩ := c3 k c hc
        rw [Nat.zero_add] at d1
        exact ⟨d1, d2⟩
      refine ⟨fun a ha => ⟨by rw [zN_sR, nb]; omega, on _ (by omega)⟩, ⟨by rw [zN_sR, nb]; omega, on _ (by omega)⟩, ⟨by rw [zN_sR, nb]; omega, on _ (by omega)⟩, by omega, fun a ha => ?_, ⟨(h0 4).trans (hR 4 _ rfl).1, (h0 5).trans (hR 5 _ rfl).1⟩, ⟨(hR 0 _ rfl).2, (hR 1 _ rfl).2, (hR 2 _ rfl).2, (hR 3 _ rfl).2⟩, ⟨(hR 4 _ rfl).2, (hR 5 _ rfl).2⟩, by simp⟩
      rcases (show a = 0 ∨ a = 1 ∨ a = 2 ∨ a = 3 by omega) with rfl | rfl | rfl | rfl
      · exact (h0 0).trans (hR 0 _ rfl).1
      · exact (h0 1).trans (hR 1 _ rfl).1
      · exact (h0 2).trans (hR 2 _ rfl).1
      · exact (h0 3).trans (hR 3 _ rfl).1
    rw [zlt_, zlt_]
    show ∃ h' o' s pp qq nn, zbV (gX3_init b0 (zN h)) _ = _ ∧ _
    rw [hini, zbV_s, zlt_, hJ, zR_se]
    have o0' : o1 0 = 100 := (ho1 0 (by omega)).trans o0
    have m1 : zMv (fun t => t = 100) h o (zsR b7 0 8 (some (zN h))) o1 := (mAll.wk (fun _ hh => hh.elim)).tr (zMv.sR o0')
    have f0 := mAll.2.2 0 (by omega) (fun x => x)
    refine ⟨_, o1, zN h, zN h + 5, zN h + 6, 64, rfl, ?_, by rw [zR_se], hx, m1, by rw [zN_sR, nb]; exact Nat.le_refl _, by rw [zS_sR, sb]; exact Nat.le_refl _⟩
    refine p.works m1 (fun t ht => Or.inl ht) (fun k hk => ?_) (f0.2.2.1 4) ((f0.2.2.1 5).trans p.2.2.2.2.1.1) f0.1 (hx.mix (by rw [zR_se])) (p.2.2.2.2.2.2.1.mv m1 (by omega) ?_) (p.2.2.2.2.2.2.2.mv m1 (by omega) (by omega) ?_)
    · rw [zR_s, if_neg (by omega)]; exact f0.2.2.2.2 k
    · rw [zR_s, if_neg (by omega)]; exact f0.2.2.2.2 7
    · rw [zR_s, if_neg (by omega)]; exact f0.2.2.2.2 6
  · rw [e, zcs_s, hJ, e]
    exact ⟨h, o, s, pp, qq, nn, rfl, p, e, x, zMv.rf h o, by omega, by omega⟩
end Ops
