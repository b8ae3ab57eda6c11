/-! products of both sides are the same; join, bracket -/
theorem sAt_sF (F : Nat → Nat × Int64) (x : Nat) : ∀ l : List Nat, sAt (l.map F) x = sF (fun y => if (F y).1 = x then (F y).2 else 0) l
  | [] => rfl
  | y :: l => by
    show (if (F y).1 = x then (F y).2 else 0) + sAt (l.map F) x = _
    rw [sAt_sF F x l]; rfl
/-- what a pair brings, once or taken from both sides -/
def brR (br : Bool) (a b : Wd) : Int64 := if br = true ∧ comN a.1 b.1 then 0 else (if br = true then 2 else 1) * tuR (phN a.1 b.1) (pa a b) (pb a b)
def brI (br : Bool) (a b : Wd) : Int64 := if br = true ∧ comN a.1 b.1 then 0 else (if br = true then 2 else 1) * tuI (phN a.1 b.1) (pa a b) (pb a b)
theorem sF_mul (c : Int64) (F : Nat → Int64) : ∀ l, c * sF F l = sF (fun y => c * F y) l
  | [] => by show c * 0 = 0; grind
  | y :: l => by
    show c * (F y + sF F l) = c * F y + sF (fun y => c * F y) l
    rw [← sF_mul c F l]; grind
theorem row_sum {A B : List Wd} (hA : A.length ≤ 60) (hB : B.length ≤ 60) {br : Bool} {i : Nat} {a : Wd} (ha : A[i]? = some a) (x : Nat) : ∀ j, j ≤ B.length → (if br = true then 2 else 1) * sF (sel x (fR A B)) (rowC B br i a j) = sAt ((B.take j).map (fun b => (a.1 ^^^ b.1, brR br a b))) x ∧ (if br = true then 2 else 1) * sF (sel x (fI A B)) (rowC B br i a j) = sAt ((B.take j).map (fun b => (a.1 ^^^ b.1, brI br a b))) x
  | 0, _ => by
    refine ⟨?_, ?_⟩
    · show _ * (0 : Int64) = 0; exact Int64.mul_zero
    · show _ * (0 : Int64) = 0; exact Int64.mul_zero
  | j + 1, hj => by
    obtain ⟨i1, i2⟩ := row_sum hA hB (br := br) ha x j (by omega)
    obtain ⟨b, hb⟩ := get_some (l := B) (i := j) (by omega)
    have hi := len_i ha
    rw [take_sc hb, List.map_append, List.map_append, sAt_app, sAt_app, ← i1, ← i2]
    show _ * sF _ (rowC B br i a j ++ _) = _ ∧ _ * sF _ (rowC B br i a j ++ _) = _
    simp only [hb]
    rw [sF_app, sF_app]
    by_cases hc : br = true ∧ comN a.1 b.1
    · simp only [if_pos hc]
      refine ⟨?_, ?_⟩
      · show _ * (_ + (0 : Int64)) = _ + ((if a.1 ^^^ b.1 = x then brR br a b else 0) + 0)
        unfold brR
        rw [if_pos hc]
        split <;> grind
      · show _ * (_ + (0 : Int64)) = _ + ((if a.1 ^^^ b.1 = x then brI br a b else 0) + 0)
        unfold brI
        rw [if_pos hc]
        split <;> grind
    · simp only [if_neg hc]
      obtain ⟨p1, p2, p3⟩ := pcd_d (k := a.1 ^^^ b.1) (i := i) (j := j) (by omega) (by omega)
      have f1 : fR A B (pcd (a.1 ^^^ b.1) i j) = tuR (phN a.1 b.1) (pa a b) (pb a b) := by unfold fR; rw [p2, p3, ha, hb]
      have f2 : fI A B (pcd (a.1 ^^^ b.1) i j) = tuI (phN a.1 b.1) (pa a b) (pb a b) := by unfold fI; rw [p2, p3, ha, hb]
      refine ⟨?_, ?_⟩
      · show _ * (_ + ((if pcd (a.1 ^^^ b.1) i j / 4096 = x then fR A B (pcd (a.1 ^^^ b.1) i j) else 0) + 0)) = _ + ((if a.1 ^^^ b.1 = x then brR br a b else 0) + 0)
        rw [p1, f1]
        unfold brR
        rw [if_neg hc]
        split <;> grind
      · show _ * (_ + ((if pcd (a.1 ^^^ b.1) i j / 4096 = x then fI A B (pcd (a.1 ^^^ b.1) i j) else 0) + 0)) = _ + ((if a.1 ^^^ b.1 = x then brI br a b else 0) + 0)
        rw [p1, f2]
        unfold brI
        rw [if_neg hc]
        split <;> grind
theorem all_sum {A B : List Wd} (hA : A.length ≤ 60) (hB : B.length ≤ 60) (br : Bool) (x : Nat) : ∀ i, i ≤ A.length → (if br = true then 2 else 1) * sF (sel x (fR A B)) (allC A B br i) = sAt (pairC (fun a b => (a.1 ^^^ b.1, brR br a b)) (A.take i) B) x ∧ (if br = true then 2 else 1) * sF (sel x (fI A B)) (allC A B br i) = sAt (pairC (fun a b => (a.1 ^^^ b.1, brI br a b)) (A.take i) B) x
  | 0, _ => by
    refine ⟨?_, ?_⟩
    · show _ * (0 : Int64) = 0; exact Int64.mul_zero
    · show _ * (0 : Int64) = 0; exact Int64.mul_zero
  | i + 1, hi => by
    obtain ⟨i1, i2⟩ := all_sum hA hB br x i (by omega)
    obtain ⟨a, ha⟩ := get_some (l := A) (i := i) (by omega)
    obtain ⟨r1, r2⟩ := row_sum hA hB (br := br) ha x B.length (Nat.le_refl _)
    rw [List.take_length] at r1 r2
    have hp : ∀ F : Wd → Wd → Nat × Int64, pairC F (A.take (i + 1)) B = pairC F (A.take i) B ++ B.map (F a) := fun F => by
      rw [take_sc ha]
      unfold pairC
      rw [List.flatMap_append]
      simp
    rw [hp, hp, sAt_app, sAt_app, ← i1, ← i2, ← r1, ← r2]
    show _ * sF _ (allC A B br i ++ _) = _ ∧ _ * sF _ (allC A B br i ++ _) = _
    simp only [ha]
    rw [sF_app, sF_app]
    exact ⟨by grind, by grind⟩
theorem pair_snd (F : Wd → Wd → Nat × Int64) (x : Nat) (b : Wd) (B : List Wd) : ∀ A : List Wd, sAt (pairC F A (b :: B)) x = sAt (A.map (fun a => F a b)) x + sAt (pairC F A B) x
  | [] => by show (0 : Int64) = 0 + 0; rfl
  | a :: A => by
    have e : ∀ C, pairC F (a :: A) C = C.map (F a) ++ pairC F A C := fun C => by unfold pairC; rw [List.flatMap_cons]
    rw [e, e, sAt_app, sAt_app, pair_snd F x b B A]
    show ((if (F a b).1 = x then (F a b).2 else 0) + sAt (B.map (F a)) x) + _ = ((if (F a b).1 = x then (F a b).2 else 0) + sAt (A.map (fun a => F a b)) x) + _
    grind
theorem pair_nil (F : Wd → Wd → Nat × Int64) (x : Nat) : ∀ A : List Wd, sAt (pairC F A []) x = 0
  | [] => rfl
  | a :: A => by
    show sAt (pairC F (a :: A) []) x = 0
    have e : pairC F (a :: A) [] = [] ++ pairC F A [] := by unfold pairC; rw [List.flatMap_cons]; rfl
    rw [e, sAt_app, pair_nil F x A]; rfl
theorem pair_flip (F : Wd → Wd → Nat × Int64) (x : Nat) (A : List Wd) : ∀ B : List Wd, sAt (pairC F B A) x = sAt (pairC (fun a b => F b a) A B) x
  | [] => by rw [pair_nil]; rfl
  | b :: B => by
    have e : pairC F (b :: B) A = A.map (F b) ++ pairC F B A := by unfold pairC; rw [List.flatMap_cons]
    rw [e, sAt_app, pair_snd, pair_flip F x A B]
theorem map_add (F G H : Wd → Nat × Int64) (x : Nat) : ∀ (B : List Wd), (∀ b ∈ B, (F b).1 = (H b).1 ∧ (G b).1 = (H b).1 ∧ (F b).2 + (G b).2 = (H b).2) → sAt (B.map F) x + sAt (B.map G) x = sAt (B.map H) x
  | [], _ => by show (0 : Int64) + 0 = 0; rfl
  | b :: B, h => by
    obtain ⟨h1, h2, h3⟩ := h b List.mem_cons_self
    have ih := map_add F G H x B (fun c hc => h c (List.mem_cons_of_mem _ hc))
    show ((if (F b).1 = x then (F b).2 else 0) + sAt (B.map F) x) + ((if (G b).1 = x then (G b).2 else 0) + sAt (B.map G) x) = (if (H b).1 = x then (H b).2 else 0) + sAt (B.map H) x
    rw [← ih, h1, h2, ← h3]
    split <;> grind
theorem pair_add (F G H : Wd → Wd → Nat × Int64) (x : Nat) (B : List Wd) : ∀ (A : List Wd), (∀ a ∈ A, ∀ b ∈ B, (F a b).1 = (H a b).1 ∧ (G a b).1 = (H a b).1 ∧ (F a b).2 + (G a b).2 = (H a b).2) → sAt (pairC F A B) x + sAt (pairC G A B) x = sAt (pairC H A B) x
  | [], _ => by show (0 : Int64) + 0 = 0; rfl
  | a :: A, h => by
    have e : ∀ K : Wd → Wd → Nat × Int64, pairC K (a :: A) B = B.map (K a) ++ pairC K A B := fun K => by unfold pairC; rw [List.flatMap_cons]
    rw [e, e, e, sAt_app, sAt_app, sAt_app, ← pair_add F G H x B A (fun c hc => h c (List.mem_cons_of_mem _ hc)), ← map_add (F a) (G a) (H a) x B (h a List.mem_cons_self)]
    grind
/-- the reference's bracket, pair by pair -/
theorem brk_sum {A B : List Wd} (kA : ∀ w ∈ A, w.1 < 65536) (kB : ∀ w ∈ B, w.1 < 65536) (x : Nat) : sAt (pairC (prR 1) A B ++ pairC (prR (-1)) B A) x = sAt (pairC (fun a b => (a.1 ^^^ b.1, brR true a b)) A B) x ∧ sAt (pairC (prI 1) A B ++ pairC (prI (-1)) B A) x = sAt (pairC (fun a b => (a.1 ^^^ b.1, brI true a b)) A B) x := by
  rw [sAt_app, sAt_app, pair_flip (prR (-1)) x A B, pair_flip (prI (-1)) x A B]
  refine ⟨pair_add _ _ _ x B A (fun a ha b hb => ⟨rfl, ?_, ?_⟩), pair_add _ _ _ x B A (fun a ha b hb => ⟨rfl, ?_, ?_⟩)⟩
  · exact Nat.xor_comm _ _
  · show (1 : Int32).toInt64 * _ + (-1 : Int32).toInt64 * _ = _
    rw [(brk (kA a ha) (kB b hb)).1]
    unfold brR
    by_cases hc : comN a.1 b.1
    · rw [if_pos hc, if_pos ⟨rfl, hc⟩]
    · rw [if_neg hc, if_neg (fun hh => hc hh.2), if_pos rfl]
  · exact Nat.xor_comm _ _
  · show (1 : Int32).toInt64 * _ + (-1 : Int32).toInt64 * _ = _
    rw [(brk (kA a ha) (kB b hb)).2]
    unfold brI
    by_cases hc : comN a.1 b.1
    · rw [if_pos hc, if_pos ⟨rfl, hc⟩]
    · rw [if_neg hc, if_neg (fun hh => hc hh.2), if_pos rfl]
theorem one_sum {A B : List Wd} (x : Nat) : sAt (pairC (prR 1) A B) x = sAt (pairC (fun a b => (a.1 ^^^ b.1, brR false a b)) A B) x ∧ sAt (pairC (prI 1) A B) x = sAt (pairC (fun a b => (a.1 ^^^ b.1, brI false a b)) A B) x := by
  have e1 : prR 1 = fun a b => (a.1 ^^^ b.1, brR false a b) := by
    funext a b
    unfold prR brR
    rw [if_neg (by simp)]
    rfl
  have e2 : prI 1 = fun a b => (a.1 ^^^ b.1, brI false a b) := by
    funext a b
    unfold prI brI
    rw [if_neg (by simp)]
    rfl
  rw [e1, e2]
  exact ⟨rfl, rfl⟩
section Ops
variable {SC : Ch → (Nat → Nat → Int32) → (Nat → Nat → Int64) → Prop} {h h0 : Zh} {o : Nat → Nat} {L : Led} {n : Nat} {w : Nat → Wt} {S : Nat → Option Sh} {fa tr : Int32} {I : Nat → Nat → Int32} {J : Nat → Nat → Int64}
/-- the class's product has what the great table has -/
theorem mult_nz {E : List (Nat × Int64 × Int64)} {A B : List Wd} {br : Bool} (hA : A.length ≤ 60) (hB : B.length ≤ 60) (kA : ∀ w ∈ A, w.1 < 65536) (kB : ∀ w ∈ B, w.1 < 65536) (es : eS E) (hs : ∀ x, sAt (eR E) x = (if br = true then 2 else 1) * sF (sel x (fR A B)) (allC A B br A.length) ∧ sAt (eI E) x = (if br = true then 2 else 1) * sF (sel x (fI A B)) (allC A B br A.length)) (f0 g0 : Nat → Int64) : E = nz (aL (z0f f0 65536) (if br = true then pairC (prR 1) A B ++ pairC (prR (-1)) B A else pairC (prR 1) A B)) (aL (z0f g0 65536) (if br = true then pairC (prI 1) A B ++ pairC (prI (-1)) B A else pairC (prI 1) A B)) 65536 := by
  refine E_nz es (fun x hx => ?_)
  obtain ⟨a1, a2⟩ := all_sum hA hB br x A.length (Nat.le_refl _)
  rw [List.take_length] at a1 a2
  show _ = z0f f0 65536 x + sAt _ x ∧ _ = z0f g0 65536 x + sAt _ x
  rw [z0f_lt _ hx, z0f_lt _ hx, (hs x).1, (hs x).2, a1, a2]
  cases br with
  | true =>
    rw [if_pos rfl, if_pos rfl, (brk_sum kA kB x).1, (brk_sum kA kB x).2]
    exact ⟨by grind, by grind⟩
  | false =>
    rw [if_neg (by decide), if_neg (by decide), (one_sum x).1, (one_sum x).2]
    exact ⟨by grind, by grind⟩
theorem join_st (p : stX SC h o L n w S fa tr) (q : stM I L n w S fa tr) (hst : stOk L n w S) (x1 x2 x3 x4 : Int32) : stG SC (gX11_join h 0 x1 x2 x3 x4) (gX12_join (mH I J) 0 x1 x2 x3 x4) h := by
  have hL := hst.1
  unfold gX11_join gX12_join
  repeat (first | rw [noSumX] | rw [noSumM] | rw [zlt_] | rw [zjn_] | rw [zob_s] | rw [zg_1] | rw [zbi_s] | rw [zbI_s] | rw [zbr_s] | rw [zbR_s] | rw [zbV_s] | rw [zbj_s] | rw [zbJ_s] | rw [zcs_s] | rw [zcs_n])
  by_cases h1 : inR x1 4
  · rw [if_pos h1, if_pos rfl, if_pos rfl]
    by_cases h2 : inR x2 4
    · rw [if_pos h2, if_pos rfl, if_pos rfl]
      by_cases h3 : inR x3 4
      · rw [if_pos h3, if_pos rfl, if_pos rfl, in_R x4 3 4 rfl, zbi_s]
        have hif : ∀ (u v : Option (Int32 × Zh)), (if x4 < 0 then v else if x4 ≤ 3 then u else v) = if inR x4 4 then u else v := by
          intro u v
          have e1 := i_lt0 x4
          have e4 : x4 ≤ 3 ↔ x4.toInt ≤ 3 := Int32.le_iff_toInt_le
          simp only [e1, e4]
          by_cases hC : inR x4 4
          · rw [if_pos hC]
            repeat' split
            all_goals first | rfl | (exfalso; omega)
          · rw [if_neg hC]
            repeat' split
            all_goals first | rfl | (exfalso; omega)
        rw [hif]
        by_cases h4 : inR x4 4
        · rw [if_pos h4, if_pos h4, if_neg (show ¬ (1 : Int32) = 0 by decide)]
          obtain ⟨m, hm, rfl⟩ := inR_f h1
          obtain ⟨k, hk, rfl⟩ := inR_f h2
          obtain ⟨l, hl, rfl⟩ := inR_f h3
          obtain ⟨y, hy, rfl⟩ := inR_f h4
          obtain ⟨h1', o1, s, pp, qq, nn, g1, p1, e8, hx1, mw, bN, bS⟩ := wordRows_ok p
          obtain ⟨a, ga, sa⟩ := sumNow_ok hL p1 hk
          obtain ⟨b, gb, sb⟩ := sumNow_ok hL p1 hl
          have f0 : zR h1' 0 0 = some 1 := p1.1.1.1
          have wA := (hL.2.2 _ hL.1).2 k hk
          have wB := (hL.2.2 _ hL.1).2 l hl
          have kA : ∀ v ∈ L.2.1 L.2.2.1 k, v.1 < 65536 := fun v hv => (wA.2.2 v hv).1
          have kB : ∀ v ∈ L.2.1 L.2.2.1 l, v.1 < 65536 := fun v hv => (wB.2.2 v hv).1
          repeat (first | rw [g1] | rw [f0] | rw [ga] | rw [gb] | rw [startSum_ok I J] | rw [zlt_] | rw [zjn_] | rw [zob_s] | rw [zg_1] | rw [zbi_s] | rw [zbI_s] | rw [zbr_s] | rw [zbR_s] | rw [zbV_s] | rw [zbj_s] | rw [zbJ_s] | rw [zcs_s] | rw [zcs_n])
          have hJ1 : ∀ g, gX12_join_J1 0 (nI m) g = zbI (gX12_putOrSpent g 0 (nI m)) (fun x25 h4 => (some (x25, h4))) := fun g => rfl
          have hX1 : ∀ g, gX11_join_J1 0 (nI m) (some s) g = zbI (gX11_keep g 0 (nI m) (some s)) (fun x31 h3 => (some (x31, h3))) := fun g => rfl
          by_cases h2y : 2 ≤ y
          · have hge : (2 : Int32) ≤ nI y := nI_le (a := 2) h2y (by omega)
            rw [if_pos hge, if_pos hge, takeSum_ok (show k < 5 by omega) wA.1 kA (q.1.2.2 k hk), zbV_s]
            unfold gX11_join_J2 gX12_join_J3 gX12_join_J2
            have hy1 : ¬ nI y = (1 : Int32) := fun e => by have := (nI_inj (b := 1) (by omega) (by omega)).mp e; omega
            have hfin : ∀ (b' : Int32) (t : Int64), b' = 1 ∨ b' = -1 → t = b'.toInt64 → stG SC (zbV (gX3_merge h1' s (some a) (some b) t) (fun h4 => gX11_join_J1 0 (nI m) (some s) h4)) (zbV (gX12_takeSum (mH I (wJ J (aL (z0f (J 27) 65536) (cR 1 (L.2.1 L.2.2.1 k))) (aL (z0f (J 28) 65536) (cI 1 (L.2.1 L.2.2.1 k))))) 0 (nI l) b') (fun h7 => gX12_join_J1 0 (nI m) h7)) h := by
              intro b' t hb' ht
              rw [takeSum_ok (show l < 5 by omega) wB.1 kB (q.1.2.2 l hl), zbV_s, hJ1]
              show stG SC (zbV _ (fun h4 => zbI (gX11_keep h4 0 (nI m) (some s)) (fun x31 h3 => (some (x31, h3))))) _ h
              have c1 := cR_ct wA.2.2 1 (Or.inl rfl)
              have c2 := cR_ct wB.2.2 b' hb'
              have ct := ct1 (L.2.1 L.2.2.1 k)
              refine merge_both t hm p1 q hst e8 hx1 sa sb wA.1 wB.1 wA.2.1 wB.2.1 kA kB (by omega) (by omega) (fun y hy => ?_) (fun y hy => ?_)
              · show z0f (J 27) 65536 y + sAt _ y + sAt _ y = _
                rw [z0f_lt _ hy, c1.1, show (1 : Int32).toInt64 = 1 from rfl, ct.1, c2.1, ht]; grind
              · show z0f (J 28) 65536 y + sAt _ y + sAt _ y = _
                rw [z0f_lt _ hy, c1.2, show (1 : Int32).toInt64 = 1 from rfl, ct.2, c2.2, ht]; grind
            rcases (show y = 2 ∨ y = 3 by omega) with rfl | rfl
            · exact hfin 1 1 (Or.inl rfl) rfl
            · exact hfin (-1) (-1) (Or.inr rfl) rfl
          · have hge : ¬ (2 : Int32) ≤ nI y := zge_n (b := 2) (by omega) (by decide)
            rw [if_neg hge, if_neg hge, takeProduct_ok (show k < 5 by omega) (show l < 5 by omega) wA.1 wB.1 kA kB (q.1.2.2 k hk) (q.1.2.2 l hl), zbV_s]
            have hfin : ∀ br : Bool, stG SC (zbV (gX3_multiply h1' s (some a) (some b) (if br = true then 1 else 0)) (fun h5 => gX11_join_J1 0 (nI m) (some s) h5)) (gX12_join_J1 0 (nI m) (mH I (wJ J (aL (z0f (J 27) 65536) (if br = true then pairC (prR 1) (L.2.1 L.2.2.1 k) (L.2.1 L.2.2.1 l) ++ pairC (prR (-1)) (L.2.1 L.2.2.1 l) (L.2.1 L.2.2.1 k) else pairC (prR 1) (L.2.1 L.2.2.1 k) (L.2.1 L.2.2.1 l))) (aL (z0f (J 28) 65536) (if br = true then pairC (prI 1) (L.2.1 L.2.2.1 k) (L.2.1 L.2.2.1 l) ++ pairC (prI (-1)) (L.2.1 L.2.2.1 l) (L.2.1 L.2.2.1 k) else pairC (prI 1) (L.2.1 L.2.2.1 k) (L.2.1 L.2.2.1 l)))))) h := by
              intro br
              obtain ⟨h2, o2, p2', q2', n2', E, m1, m2, m3, ⟨m4, m5⟩, m6, m7, m8, m9⟩ := multiply_ok hx1 sa sb wA.1 wB.1 kA kB br
              obtain ⟨p3, e83⟩ := stX_mix m3 e8 m2 p1
              rw [m1, zbV_s, hX1, hJ1]
              exact keep_both hm p3 q hst e83 m2 m6 (mult_nz wA.1 wB.1 kA kB m7 m9 (J 27) (J 28)) (by omega) (by omega)
            unfold gX11_join_J3 gX12_join_J2
            rcases (show y = 0 ∨ y = 1 by omega) with rfl | rfl
            · exact hfin false
            · have := hfin true
              rw [zob_s, if_pos (show nI 1 = 1 from rfl), zjn_, if_pos (show nI 1 = 1 from rfl), takeProduct_ok (show l < 5 by omega) (show k < 5 by omega) wB.1 wA.1 kB kA (q.1.2.2 l hl) (q.1.2.2 k hk), zbV_s, aL_app, aL_app]
              exact this
        · rw [if_neg h4, if_neg h4, if_pos rfl]
          exact stG_0 p q hst _
      · rw [if_neg h3, if_neg (by decide), if_neg (by decide)]
        exact stG_0 p q hst _
    · rw [if_neg h2, if_neg (by decide), if_neg (by decide)]
      exact stG_0 p q hst _
  · rw [if_neg h1, if_neg (by decide), if_neg (by decide)]
    exact stG_0 p q hst _
theorem bracket_st (p : stX SC h o L n w S fa tr) (q : stM I L n w S fa tr) (hst : stOk L n w S) (x1 x2 : Int32) : stG SC (gX11_bracket h 0 x1 x2) (gX12_bracket (mH I J) 0 x1 x2) h := by
  have hL := hst.1
  have hJ1 : gX12_bracket_J1 (mH I J) = some (-1, mH I J) := rfl
  unfold gX11_bracket gX12_bracket
  repeat (first | rw [noSumX] | rw [noSumM] | rw [hJ1] | rw [zlt_] | rw [zjn_] | rw [zob_s] | rw [zg_1] | rw [zbi_s] | rw [zbI_s] | rw [zbr_s] | rw [zbR_s] | rw [zbV_s] | rw [zbj_s] | rw [zbJ_s] | rw [zcs_s] | rw [zcs_n])
  by_cases h1 : inR x1 4
  · rw [if_pos h1, if_pos rfl, if_pos rfl]
    by_cases h2 : inR x2 4
    · rw [if_pos h2, if_pos rfl, if_pos rfl]
      obtain ⟨k, hk, rfl⟩ := inR_f h1
      obtain ⟨l, hl, rfl⟩ := inR_f h2
      obtain ⟨h1', o1, s, pp, qq, nn, g1, p1, e8, hx1, mw, bN, bS⟩ := wordRows_ok p
      obtain ⟨a, ga, sa⟩ := sumNow_ok hL p1 hk
      obtain ⟨b, gb, sb⟩ := sumNow_ok hL p1 hl
      have f0 : zR h1' 0 0 = some 1 := p1.1.1.1
      have wA := (hL.2.2 _ hL.1).2 k hk
      have wB := (hL.2.2 _ hL.1).2 l hl
      have kA : ∀ v ∈ L.2.1 L.2.2.1 k, v.1 < 65536 := fun v hv => (wA.2.2 v hv).1
      have kB : ∀ v ∈ L.2.1 L.2.2.1 l, v.1 < 65536 := fun v hv => (wB.2.2 v hv).1
      obtain ⟨h2, o2, p2', q2', n2', E, m1, m2, m3, ⟨m4, m5⟩, m6, m7, m8, m9⟩ := multiply_ok hx1 sa sb wA.1 wB.1 kA kB true
      obtain ⟨p3, e83⟩ := stX_mix m3 e8 m2 p1
      have hE := mult_nz wA.1 wB.1 kA kB m7 m9 (J 27) (J 28)
      rw [if_pos rfl, if_pos rfl] at hE
      rw [if_pos rfl] at m1
      unfold gX12_bracketOf
      repeat (first | rw [g1] | rw [f0] | rw [ga] | rw [gb] | rw [m1] | rw [m6.1] | rw [startSum_ok I J] | rw [takeProduct_ok (show k < 5 by omega) (show l < 5 by omega) wA.1 wB.1 kA kB (q.1.2.2 k hk) (q.1.2.2 l hl)] | rw [takeProduct_ok (show l < 5 by omega) (show k < 5 by omega) wB.1 wA.1 kB kA (q.1.2.2 l hl) (q.1.2.2 k hk)] | rw [aL_app] | rw [madeWords_ok] | rw [← hE] | rw [zlt_] | rw [zjn_] | rw [zob_s] | rw [zg_1] | rw [zbi_s] | rw [zbI_s] | rw [zbr_s] | rw [zbR_s] | rw [zbV_s] | rw [zbj_s] | rw [zbJ_s] | rw [zcs_s] | rw [zcs_n])
      exact ⟨_, h2, I, _, o2, L, n, w, S, fa, tr, rfl, rfl, p3, q, hst, by omega, by omega⟩
    · rw [if_neg h2, if_neg (by decide), if_neg (by decide)]
      exact stG_0 p q hst _
  · rw [if_neg h1, if_neg (by decide), if_neg (by decide)]
    exact stG_0 p q hst _
end Ops
