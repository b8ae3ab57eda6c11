/-! calls that make moments: chain, clear, undo, redo; words read -/
section Mv
variable {T : Nat → Prop} {h h1 : Zh} {o o1 : Nat → Nat}
theorem zMv.nI {a k : Nat} {v : Int32} (m : zMv T h o h1 o1) (ha : zN h ≤ a) : zMv T h o (zsI h1 a k v) o1 := ⟨m.1, m.2.1, fun b hb ht => (m.2.2 b hb ht).tr ⟨rfl, rfl, fun j => if_neg (fun (e : b = a ∧ j = k) => by omega), fun _ => rfl, fun _ => rfl⟩⟩
theorem zMv.nJ {a k : Nat} {v : Int64} (m : zMv T h o h1 o1) (ha : zN h ≤ a) : zMv T h o (zsJ h1 a k v) o1 := ⟨m.1, m.2.1, fun b hb ht => (m.2.2 b hb ht).tr ⟨rfl, rfl, fun _ => rfl, fun j => if_neg (fun (e : b = a ∧ j = k) => by omega), fun _ => rfl⟩⟩
theorem zMv.nR {a k : Nat} {v : Option Nat} (m : zMv T h o h1 o1) (ha : zN h ≤ a) : zMv T h o (zsR h1 a k v) o1 := ⟨m.1, m.2.1, fun b hb ht => (m.2.2 b hb ht).tr ⟨rfl, rfl, fun _ => rfl, fun _ => rfl, fun j => if_neg (fun (e : b = a ∧ j = k) => by omega)⟩⟩
end Mv
abbrev ldT : Nat → Prop := fun t => t = 101 ∨ t = 103 ∨ t = 104
section Ops
variable {SC : Ch → (Nat → Nat → Int32) → (Nat → Nat → Int64) → Prop} {h : Zh} {o : Nat → Nat} {L : Led} {n : Nat} {w : Nat → Wt} {S : Nat → Option Sh} {fa tr : Int32} {I : Nat → Nat → Int32} {J : Nat → Nat → Int64}
/-- new cells alone -/
theorem stX_new {h' : Zh} {o' : Nat → Nat} (m : zMv (fun _ => False) h o h' o') (p : stX SC h o L n w S fa tr) : stX SC h' o' L n w S fa tr := by
  have e0 := (p.1.at m).1 (fun hh => hh)
  exact p.mv m (fun _ hh => hh.elim) e0.2.2.2.2 (e0.2.2.1 4) ((e0.2.2.1 5).trans p.2.2.2.2.1.1) e0.1
theorem stX_led {h' : Zh} {L' : Led} (m : zMv ldT h o h' o) (e1 : zR h' 1 0 = zR h 1 0) (e2 : zR h' 1 1 = zR h 1 1) (e3 : zL h' 3 = zL h 3) (e4 : zL h' 4 = zL h 4) (q : ledX h' o L') (p : stX SC h o L n w S fa tr) : stX SC h' o L' n w S fa tr := by
  obtain ⟨p1, p2, p3, p4, ⟨p5, p6⟩, p7, p8, p9⟩ := p
  obtain ⟨g0, -, -, -, g9, g10, g11⟩ := p1.at m
  have f0 := g0 (by simp [ldT])
  have f9 := g9 (by simp [ldT])
  have f10 := g10 (by simp [ldT])
  have f11 := g11 (by simp [ldT])
  have q1 : fixX h' o := by
    obtain ⟨⟨r0, r1, r2, r3⟩, ⟨l0, l1, l2, l3⟩, ⟨l9, l10, k0⟩, hn, ho⟩ := p1
    exact ⟨⟨(f0.2.2.2.2 _).trans r0, (f0.2.2.2.2 _).trans r1, (f0.2.2.2.2 _).trans r2, (f0.2.2.2.2 _).trans r3⟩, ⟨e1.trans l0, e2.trans l1, e3.trans l2, e4.trans l3⟩, ⟨f9.2.1.trans l9, f10.2.1.trans l10, f0.1.trans k0⟩, Nat.le_trans hn m.1, ho⟩
  exact ⟨q1, q, p3.mv m p1 (by simp [ldT]) (by simp [ldT]) (f0.2.2.1 4), p4.mv m p1 (by simp [ldT]) (by simp [ldT]) (fun k hk => by simp only [ldT]; omega), ⟨(f0.2.2.1 5).trans p5, (f11.2.2.1 0).trans p6⟩, p7.mv m (by simp [ldT]) (f0.2.2.2.2 8), p8.mv m (by simp [ldT]) (f0.2.2.2.2 7), p9.mv m (by simp [ldT]) (by simp [ldT]) (f0.2.2.2.2 6)⟩
theorem step_st (hL : ledOk L) (p : stX SC h o L n w S fa tr) : ∃ h1, gX2_step h 1 = some h1 ∧ zMv ldT h o h1 o ∧ (zN h1 = zN h ∧ zS h1 = zS h) ∧ (∀ a, zL h1 a = zL h a) ∧ (∀ a k, zR h1 a k = stR h.2.2.2.2.2 L.2.2.1 a k) ∧ (zI h1 1 2 = nI (rn L.2.2.1) ∧ zI h1 1 3 = nI (rn L.2.2.1)) ∧ ∀ a k, a ≠ 1 → zI h1 a k = zI h a k := by
  have ht : L.2.2.1 ≤ 20 := Nat.le_trans hL.1 hL.2.1
  obtain ⟨h1, g1, ⟨a1, a2, a3, a4, a5⟩, a6, a7, a8⟩ := step_ok h L.2.2.1 ht p.1.2.1 p.2.1.1.1
  obtain ⟨-, o1, o3, o4, -⟩ := p.1.2.2.2.2
  refine ⟨h1, g1, ⟨by omega, fun _ _ => rfl, fun a ha hT => ?_⟩, ⟨a1, a2⟩, a4, a6, a7, fun a k hk => a8 a k (by omega)⟩
  have n1 : a ≠ 1 := fun e => hT (by rw [e, o1]; exact Or.inl rfl)
  have n3 : a ≠ 3 := fun e => hT (by rw [e, o3]; exact Or.inr (Or.inl rfl))
  have n4 : a ≠ 4 := fun e => hT (by rw [e, o4]; exact Or.inr (Or.inr rfl))
  exact ⟨a3 a, a4 a, fun k => a8 a k (by omega), a5 a, fun k => (a6 a k).trans (stR_o _ _ _ _ n3 n4)⟩
theorem recS_X (hL : ledOk L) (p : stX SC h o L n w S fa tr) {k a : Nat} (hk : k < 4) {l : List Wd} (hs : sumX h o a l) : ∃ h', gX2_recordSum h 1 (nI k) (some a) = some h' ∧ stX SC h' o (recL L (L.1 L.2.2.1) (fun i => if i = k then l else L.2.1 L.2.2.1 i)) n w S fa tr ∧ zMv ldT h o h' o ∧ (zN h' = zN h ∧ zS h' = zS h) ∧ ∀ a k, a ≠ 1 → zI h' a k = zI h a k := by
  have ht : L.2.2.1 ≤ 20 := Nat.le_trans hL.1 hL.2.1
  have hr := rn_le ht
  obtain ⟨h1, g1, m, ⟨a1, a2⟩, a4, a6, ⟨a7, a7'⟩, a8⟩ := step_st hL p
  obtain ⟨r0, r1, l3, l4⟩ := p.1.2.1
  obtain ⟨-, o1, o3, o4, -⟩ := p.1.2.2.2.2
  have e4 : nI (rn L.2.2.1) * 4 + nI k = nI (4 * rn L.2.2.1 + k) := by rw [nI_o 4, pk_mul, nI_add, Nat.mul_comm]
  have e5 : zR h1 1 1 = some 4 := (a6 1 1).trans ((stR_o _ _ _ _ (by decide) (by decide)).trans r1)
  have e6 : zin (nI (4 * rn L.2.2.1 + k)) (zL h1 4) = true := by rw [a4, l4]; exact zin_nI (by omega) (by omega)
  have m2 : zMv ldT h o (zsR h1 4 (4 * rn L.2.2.1 + k) (some a)) o := m.tr (zMv.sR (by rw [o4]; exact Or.inr (Or.inr rfl)))
  refine ⟨zsR h1 4 (4 * rn L.2.2.1 + k) (some a), ?_, ?_, m2, ⟨a1, a2⟩, fun a k hk => a8 a k hk⟩
  · unfold gX2_recordSum
    repeat (first | rw [g1] | rw [e5] | rw [a7] | rw [e4] | rw [e6] | rw [zx_nI (show 4 * rn L.2.2.1 + k < 2 ^ 31 by omega)] | rw [zlt_] | rw [zjn_] | rw [zob_s] | rw [zg_1] | rw [zbi_s] | rw [zbI_s] | rw [zbr_s] | rw [zbR_s] | rw [zbV_s] | rw [zbj_s] | rw [zbJ_s] | rw [zcs_s] | rw [zcs_n])
  · refine stX_led m2 ?_ ?_ (a4 3) (a4 4) ⟨⟨a7, a7'⟩, fun j hj => ?_⟩ p
    · rw [zR_s, if_neg (by omega), a6, stR_o _ _ _ _ (by decide) (by decide)]; rfl
    · rw [zR_s, if_neg (by omega), a6, stR_o _ _ _ _ (by decide) (by decide)]; rfl
    · have hj : j ≤ rn L.2.2.1 := hj
      show (∃ c, zR (zsR h1 4 (4 * rn L.2.2.1 + k) (some a)) 3 j = some c ∧ chX _ o c (if j = rn L.2.2.1 then L.1 L.2.2.1 else L.1 (j + rb L.2.2.1))) ∧ ∀ i, i < 4 → ∃ b, zR (zsR h1 4 (4 * rn L.2.2.1 + k) (some a)) 4 (4 * j + i) = some b ∧ sumX _ o b ((if j = rn L.2.2.1 then (fun i => if i = k then l else L.2.1 L.2.2.1 i) else L.2.1 (j + rb L.2.2.1)) i)
      by_cases hn : j = rn L.2.2.1
      · obtain ⟨⟨c, c1, c2⟩, c3⟩ := p.2.1.2 L.2.2.1 hL.1
        refine ⟨⟨c, ?_, by rw [if_pos hn]; exact c2.mv m2 (by simp [ldT])⟩, fun i hi => ?_⟩
        · rw [zR_s, if_neg (by omega), a6, stR_3 _ _ _ ht hj, if_pos hn]
          exact c1
        · rw [if_pos hn]
          by_cases hik : i = k
          · refine ⟨a, ?_, ?_⟩
            · rw [zR_s, if_pos ⟨rfl, by omega⟩]
            · show sumX _ o a (if i = k then l else _)
              rw [if_pos hik]
              exact hs.mv m2 (by simp [ldT])
          · obtain ⟨b, b1, b2⟩ := c3 i hi
            refine ⟨b, ?_, ?_⟩
            · rw [zR_s, if_neg (by omega), a6, stR_4 _ _ _ _ ht hj hi, if_pos hn]
              exact b1
            · show sumX _ o b (if i = k then l else _)
              rw [if_neg hik]
              exact b2.mv m2 (by simp [ldT])
      · have hb := Nat.le_trans (rnb ht hj hn) hL.1
        obtain ⟨⟨c, c1, c2⟩, c3⟩ := p.2.1.2 _ hb
        refine ⟨⟨c, ?_, by rw [if_neg hn]; exact c2.mv m2 (by simp [ldT])⟩, fun i hi => ?_⟩
        · rw [zR_s, if_neg (by omega), a6, stR_3 _ _ _ ht hj, if_neg hn]
          exact c1
        · rw [if_neg hn]
          obtain ⟨b, b1, b2⟩ := c3 i hi
          refine ⟨b, ?_, b2.mv m2 (by simp [ldT])⟩
          rw [zR_s, if_neg (by omega), a6, stR_4 _ _ _ _ ht hj hi, if_neg hn]
          exact b1
theorem recC_X (hL : ledOk L) (p : stX SC h o L n w S fa tr) {a : Nat} {c' : Ch} (hs : chX h o a c') : ∃ h', gX2_recordChain h 1 (some a) = some h' ∧ stX SC h' o (recL L c' (L.2.1 L.2.2.1)) n w S fa tr ∧ zMv ldT h o h' o ∧ (zN h' = zN h ∧ zS h' = zS h) ∧ ∀ a k, a ≠ 1 → zI h' a k = zI h a k := by
  have ht : L.2.2.1 ≤ 20 := Nat.le_trans hL.1 hL.2.1
  have hr := rn_le ht
  obtain ⟨h1, g1, m, ⟨a1, a2⟩, a4, a6, ⟨a7, a7'⟩, a8⟩ := step_st hL p
  obtain ⟨r0, r1, l3, l4⟩ := p.1.2.1
  obtain ⟨-, o1, o3, o4, -⟩ := p.1.2.2.2.2
  have e5 : zR h1 1 0 = some 3 := (a6 1 0).trans ((stR_o _ _ _ _ (by decide) (by decide)).trans r0)
  have e6 : zin (nI (rn L.2.2.1)) (zL h1 3) = true := by rw [a4, l3]; exact zin_nI (by omega) (by omega)
  have m2 : zMv ldT h o (zsR h1 3 (rn L.2.2.1) (some a)) o := m.tr (zMv.sR (by rw [o3]; exact Or.inr (Or.inl rfl)))
  refine ⟨zsR h1 3 (rn L.2.2.1) (some a), ?_, ?_, m2, ⟨a1, a2⟩, fun a k hk => a8 a k hk⟩
  · unfold gX2_recordChain
    repeat (first | rw [g1] | rw [e5] | rw [a7] | rw [e6] | rw [zx_nI (show rn L.2.2.1 < 2 ^ 31 by omega)] | rw [zlt_] | rw [zjn_] | rw [zob_s] | rw [zg_1] | rw [zbi_s] | rw [zbI_s] | rw [zbr_s] | rw [zbR_s] | rw [zbV_s] | rw [zbj_s] | rw [zbJ_s] | rw [zcs_s] | rw [zcs_n])
  · refine stX_led m2 ?_ ?_ (a4 3) (a4 4) ⟨⟨a7, a7'⟩, fun j hj => ?_⟩ p
    · rw [zR_s, if_neg (by omega), a6, stR_o _ _ _ _ (by decide) (by decide)]; rfl
    · rw [zR_s, if_neg (by omega), a6, stR_o _ _ _ _ (by decide) (by decide)]; rfl
    · have hj : j ≤ rn L.2.2.1 := hj
      show (∃ c, zR (zsR h1 3 (rn L.2.2.1) (some a)) 3 j = some c ∧ chX _ o c (if j = rn L.2.2.1 then c' else L.1 (j + rb L.2.2.1))) ∧ ∀ i, i < 4 → ∃ b, zR (zsR h1 3 (rn L.2.2.1) (some a)) 4 (4 * j + i) = some b ∧ sumX _ o b ((if j = rn L.2.2.1 then L.2.1 L.2.2.1 else L.2.1 (j + rb L.2.2.1)) i)
      by_cases hn : j = rn L.2.2.1
      · obtain ⟨-, c3⟩ := p.2.1.2 L.2.2.1 hL.1
        refine ⟨⟨a, by rw [zR_s, if_pos ⟨rfl, hn⟩], by rw [if_pos hn]; exact hs.mv m2 (by simp [ldT])⟩, fun i hi => ?_⟩
        rw [if_pos hn]
        obtain ⟨b, b1, b2⟩ := c3 i hi
        refine ⟨b, ?_, b2.mv m2 (by simp [ldT])⟩
        rw [zR_s, if_neg (by omega), a6, stR_4 _ _ _ _ ht hj hi, if_pos hn]
        exact b1
      · have hb := Nat.le_trans (rnb ht hj hn) hL.1
        obtain ⟨⟨c, c1, c2⟩, c3⟩ := p.2.1.2 _ hb
        refine ⟨⟨c, ?_, by rw [if_neg hn]; exact c2.mv m2 (by simp [ldT])⟩, fun i hi => ?_⟩
        · rw [zR_s, if_neg (by omega), a6, stR_3 _ _ _ ht hj, if_neg hn]
          exact c1
        · rw [if_neg hn]
          obtain ⟨b, b1, b2⟩ := c3 i hi
          refine ⟨b, ?_, b2.mv m2 (by simp [ldT])⟩
          rw [zR_s, if_neg (by omega), a6, stR_4 _ _ _ _ ht hj hi, if_neg hn]
          exact b1
/-- a new moment in the reference, all else as it was -/
theorem acted_st {c' : Ch} {s' : Nat → List Wd} (hL : ledOk L) (hc : chOk c') (hs : ∀ k, k < 4 → wdOk (s' k)) (I' : Nat → Nat → Int32) (hI : ∀ a b, ¬ (a = 0 ∧ 1 ≤ b ∧ b ≤ 4) → ¬ (23 ≤ a ∧ a ≤ 26) → ¬ mScr a b → I' a b = I a b) (hcur : curM I' c' s') (q : stM I L n w S fa tr) : stM (macted I' L.2.2.1) (recL L c' s') n w S fa tr := by
  obtain ⟨q1, q2, q3, q4, q5⟩ := q
  have hS : ledS I' L := q1.1.mv hL (hI _ _ (by omega) (by omega) (by unfold mScr; omega)) (hI _ _ (by omega) (by omega) (by unfold mScr; omega)) (fun b => hI _ _ (by omega) (by omega) (by unfold mScr; omega))
  have hm : ∀ a b, ¬ (a = 0 ∧ 1 ≤ b ∧ b ≤ 4) → ¬ (23 ≤ a ∧ a ≤ 26) → ¬ mScr a b → a ≠ 29 → ¬ (a = 0 ∧ (b = 36 ∨ b = 37)) → macted I' L.2.2.1 a b = I a b := fun a b n1 n2 n3 n4 n5 => (macted_o _ _ _ _ n4 n5).trans (hI a b n1 n2 n3)
  exact ⟨acted_led hL hc hs hS hcur, q2.mv (hm _ _ (by omega) (by omega) (by unfold mScr; omega) (by omega) (by omega)) (fun a b _ _ => hm _ _ (by omega) (by omega) (by unfold mScr; omega) (by omega) (by omega)), q3.mv (fun a b _ _ => hm _ _ (by omega) (by omega) (by unfold mScr; omega) (by omega) (by omega)), (hm _ _ (by omega) (by omega) (by unfold mScr; omega) (by omega) (by omega)).trans q4, (hm _ _ (by omega) (by omega) (by unfold mScr; omega) (by omega) (by omega)).trans q5⟩
abbrev chC (x1 x3 x4 : Int32) : Prop := (2 ≤ x1.toInt ∧ x1.toInt ≤ 8) ∧ (1 ≤ x3.toInt ∧ x3.toInt ≤ 4) ∧ (-2 ≤ x4.toInt ∧ x4.toInt ≤ 2)
theorem chain_if {α : Type} (x1 x3 x4 : Int32) (a b : α) : (if x1 < 2 then b else if 8 < x1 then b else if x3 < 1 then b else if 4 < x3 then b else if x4 < -2 then b else if x4 ≤ 2 then a else b) = if chC x1 x3 x4 then a else b := by
  have e1 : x1 < 2 ↔ x1.toInt < 2 := Int32.lt_iff_toInt_lt
  have e2 : 8 < x1 ↔ 8 < x1.toInt := Int32.lt_iff_toInt_lt
  have e3 : x3 < 1 ↔ x3.toInt < 1 := Int32.lt_iff_toInt_lt
  have e4 : 4 < x3 ↔ 4 < x3.toInt := Int32.lt_iff_toInt_lt
  have e5 : x4 < -2 ↔ x4.toInt < -2 := Int32.lt_iff_toInt_lt
  have e6 : x4 ≤ 2 ↔ x4.toInt ≤ 2 := Int32.le_iff_toInt_le
  simp only [e1, e2, e3, e4, e5, e6]
  by_cases hC : chC x1 x3 x4
  · rw [if_pos hC]
    repeat' split
    all_goals first | rfl | (exfalso; omega)
  · rw [if_neg hC]
    repeat' split
    all_goals first | rfl | (exfalso; omega)
theorem chain_st (p : stX SC h o L n w S fa tr) (q : stM I L n w S fa tr) (k : stOk L n w S) (x1 x2 x3 x4 : Int32) (h2 : x2 = 0 ∨ x2 = 1) : stG SC (gX11_chain h 0 x1 x2 x3 x4) (gX12_chain (mH I J) 0 x1 x2 x3 x4) h := by
  unfold gX11_chain gX12_chain
  rw [chain_if, in_ii, in_ii, in_ii, zbi_s]
  have c2 : (2 : Int64).toInt = 2 := rfl
  have c8 : (8 : Int64).toInt = 8 := rfl
  have c1 : (1 : Int64).toInt = 1 := rfl
  have c4 : (4 : Int64).toInt = 4 := rfl
  have cm : (-2 : Int64).toInt = -2 := rfl
  rw [c2, c8, c1, c4, cm]
  by_cases hC : chC x1 x3 x4
  · obtain ⟨C1, C3, C4⟩ := hC
    rw [if_pos (show chC x1 x3 x4 from ⟨C1, C3, C4⟩), if_pos C1, if_neg (by decide), if_pos C3, zbi_s, if_neg (by decide), if_pos C4, zbi_s, if_neg (by decide)]
    obtain ⟨N, hN, rfl⟩ := inR_f (x := x1) (n := 9) (by omega)
    obtain ⟨r, hr, rfl⟩ : ∃ r, r ≤ 1 ∧ x2 = nI r := by
      rcases h2 with rfl | rfl
      · exact ⟨0, by omega, rfl⟩
      · exact ⟨1, by omega, rfl⟩
    have N2 : 2 ≤ N := by
      have := C1.1
      rw [nI_int (by omega)] at this
      omega
    obtain ⟨s1, s2, s3⟩ := shl_fin N (by omega)
    have hbl : zbl (nI r) = true := by
      rcases (show r = 0 ∨ r = 1 by omega) with rfl | rfl <;> rfl
    have hch : chOk (N, r, x3, x4) := ⟨N2, by show N ≤ 8; omega, hr, C3.1, C3.2, C4.1, C4.2⟩
    let h1 := zsI (zsI (zsI (zsI (zsI (zsI (zA h 0 6) (zN h) 0 (nI N)) (zN h) 1 (nI r)) (zN h) 2 x3) (zN h) 3 x4) (zN h) 4 (nI (2 ^ N))) (zN h) 5 (nI (chP N r))
    have hini : gX0_init (zA h 0 6) (zN h) (nI N) (nI r) x3 x4 = some h1 := by
      unfold gX0_init gX0_init_J1
      repeat (first | rw [hbl] | rw [s1] | rw [zlt_] | rw [zjn_] | rw [zob_s] | rw [zg_1] | rw [zbi_s] | rw [zbI_s] | rw [zbr_s] | rw [zbR_s] | rw [zbV_s] | rw [zbj_s] | rw [zbJ_s] | rw [zcs_s] | rw [zcs_n])
      rcases (show r = 0 ∨ r = 1 by omega) with rfl | rfl
      · have e : nI N - 1 = nI (chP N 0) := by
          obtain ⟨m, rfl⟩ : ∃ m, N = m + 1 := ⟨N - 1, by omega⟩
          show nI (m + 1) - 1 = nI m
          rw [nI_sc]
          grind
        rw [if_pos (show nI 0 = 0 from rfl), e]
        rfl
      · rfl
    have m1 : zMv (fun _ => False) h o h1 (oA h o 1) := ((((((zMv.A (T := fun _ => False) 1).nI (Nat.le_refl _)).nI (Nat.le_refl _)).nI (Nat.le_refl _)).nI (Nat.le_refl _)).nI (Nat.le_refl _)).nI (Nat.le_refl _)
    have p1 := stX_new m1 p
    have hcx : chX h1 (oA h o 1) (zN h) (N, r, x3, x4) := by
      refine ⟨⟨Nat.lt_succ_self _, oA_n⟩, ?_⟩
      refine ⟨?_, ?_, ?_, ?_, ?_, ?_⟩ <;> simp [h1, zI_s]
    obtain ⟨h', g1, p2, m2, ⟨z1, z2⟩, z3⟩ := recC_X k.1 p1 hcx
    have f0 : zR h1 0 0 = some 1 := p1.1.1.1
    have hN0 : zN h ≠ 1 := by have := p.1.2.2.2.1; omega
    rw [zlt_, zlt_, hini, zbV_s, zlt_, f0, zob_s, g1, zbV_s]
    have e4 : zI h' (zN h) 4 = nI (2 ^ N) := by
      rw [z3 _ _ hN0]
      exact hcx.2.2.2.2.2.1
    rw [e4]
    have hcur : curM (zU (zU (zU (zU I 0 1 (nI N)) 0 2 (nI r)) 0 3 x3) 0 4 x4) (N, r, x3, x4) (L.2.1 L.2.2.1) := by
      refine ⟨⟨?_, ?_, ?_, ?_⟩, fun k hk => ?_⟩
      · simp [zU]
      · simp [zU]
      · simp [zU]
      · simp [zU]
      · obtain ⟨a1, a2⟩ := q.1.2.2 k hk
        have ho : ∀ a b, 23 ≤ a → zU (zU (zU (zU I 0 1 (nI N)) 0 2 (nI r)) 0 3 x3) 0 4 x4 a b = I a b := fun a b ha => by
          rw [zU_n _ _ _ _ _ _ (by omega), zU_n _ _ _ _ _ _ (by omega), zU_n _ _ _ _ _ _ (by omega), zU_n _ _ _ _ _ _ (by omega)]
        refine ⟨(ho _ _ (by omega)).trans a1, fun i w hw => ?_⟩
        obtain ⟨b1, b2, b3⟩ := a2 i w hw
        exact ⟨(ho _ _ (by omega)).trans b1, (ho _ _ (by omega)).trans b2, (ho _ _ (by omega)).trans b3⟩
    have hL := k.1
    have ht : L.2.2.1 ≤ 20 := Nat.le_trans hL.1 hL.2.1
    have q2 := acted_st (c' := (N, r, x3, x4)) (s' := L.2.1 L.2.2.1) hL hch (fun k hk => (hL.2.2 _ hL.1).2 k hk) (zU (zU (zU (zU I 0 1 (nI N)) 0 2 (nI r)) 0 3 x3) 0 4 x4) (fun a b n1 n2 n3 => by
      rw [zU_n _ _ _ _ _ _ (by omega), zU_n _ _ _ _ _ _ (by omega), zU_n _ _ _ _ _ _ (by omega), zU_n _ _ _ _ _ _ (by omega)]) hcur q
    rw [zlt_, msI, hbl, zg_1, zlt_, msI, zlt_, msI, zlt_, msI, acted_ok _ J L.2.2.1 ht (by
      rw [zU_n _ _ _ _ _ _ (by omega), zU_n _ _ _ _ _ _ (by omega), zU_n _ _ _ _ _ _ (by omega), zU_n _ _ _ _ _ _ (by omega)]
      exact q.1.1.1), zbV_s]
    unfold gX12_stateMany
    rw [mI_, macted_o _ _ _ _ (by decide) (by omega), hcur.1.1, s1, zbi_s]
    refine ⟨_, h', _, J, _, _, n, w, S, fa, tr, rfl, rfl, p2, q2, ⟨recL_ok hL hch (fun k hk => (hL.2.2 _ hL.1).2 k hk), k.2.1, k.2.2⟩, ?_⟩
    have zz1 : zN h1 = zN h + 1 := rfl
    have zz2 : zS h1 = zS h + 6 := rfl
    exact ⟨by omega, by omega⟩
  · rw [if_neg hC]
    by_cases C1 : 2 ≤ x1.toInt ∧ x1.toInt ≤ 8
    · rw [if_pos C1, if_neg (by decide)]
      by_cases C3 : 1 ≤ x3.toInt ∧ x3.toInt ≤ 4
      · rw [if_pos C3, zbi_s, if_neg (by decide), if_neg (fun C4 => hC ⟨C1, C3, C4⟩), zbi_s, if_pos rfl]
        exact stG_0 p q k _
      · rw [if_neg C3, zbi_s, if_pos rfl]
        exact stG_0 p q k _
    · rw [if_neg C1, if_pos rfl]
      exact stG_0 p q k _
end Ops
