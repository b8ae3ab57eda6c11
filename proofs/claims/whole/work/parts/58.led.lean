/-! moments: chains and sums of words -/
abbrev Wd : Type := Nat × Int32 × Int32
abbrev Ch : Type := Nat × Nat × Int32 × Int32
abbrev Led : Type := (Nat → Ch) × (Nat → Nat → List Wd) × Nat × Nat
def chOk (c : Ch) : Prop := 2 ≤ c.1 ∧ c.1 ≤ 8 ∧ c.2.1 ≤ 1 ∧ 1 ≤ c.2.2.1.toInt ∧ c.2.2.1.toInt ≤ 4 ∧ -2 ≤ c.2.2.2.toInt ∧ c.2.2.2.toInt ≤ 2
def wOk (w : Wd) : Prop := w.1 < 65536 ∧ -1000000 ≤ w.2.1.toInt ∧ w.2.1.toInt ≤ 1000000 ∧ -1000000 ≤ w.2.2.toInt ∧ w.2.2.toInt ≤ 1000000
def wdOk (l : List Wd) : Prop := l.length ≤ 60 ∧ l.Pairwise (fun v w => v.1 < w.1) ∧ ∀ w ∈ l, wOk w
def ledOk (L : Led) : Prop := L.2.2.1 ≤ L.2.2.2 ∧ L.2.2.2 ≤ 20 ∧ ∀ j, j ≤ L.2.2.2 → chOk (L.1 j) ∧ ∀ k, k < 4 → wdOk (L.2.1 j k)
def sumM (I : Nat → Nat → Int32) (k : Nat) (l : List Wd) : Prop := I 23 k = nI l.length ∧ ∀ i w, l[i]? = some w → I 24 (60 * k + i) = nI w.1 ∧ I 25 (60 * k + i) = w.2.1 ∧ I 26 (60 * k + i) = w.2.2
def curM (I : Nat → Nat → Int32) (c : Ch) (s : Nat → List Wd) : Prop := (I 0 1 = nI c.1 ∧ I 0 2 = nI c.2.1 ∧ I 0 3 = c.2.2.1 ∧ I 0 4 = c.2.2.2) ∧ ∀ k, k < 4 → sumM I k (s k)
def snapM (I : Nat → Nat → Int32) (j : Nat) (c : Ch) (s : Nat → List Wd) : Prop := (I 29 (728 * j) = nI c.1 ∧ I 29 (728 * j + 1) = nI c.2.1 ∧ I 29 (728 * j + 2) = c.2.2.1 ∧ I 29 (728 * j + 3) = c.2.2.2) ∧ ∀ k, k < 4 → I 29 (728 * j + 4 + k) = nI (s k).length ∧ ∀ i w, (s k)[i]? = some w → I 29 (728 * j + 8 + (180 * k + 3 * i + 0)) = nI w.1 ∧ I 29 (728 * j + 8 + (180 * k + 3 * i + 1)) = w.2.1 ∧ I 29 (728 * j + 8 + (180 * k + 3 * i + 2)) = w.2.2
def ledS (I : Nat → Nat → Int32) (L : Led) : Prop := I 0 37 = nI L.2.2.1 ∧ I 0 36 = nI (L.2.2.2 + 1) ∧ ∀ j, j ≤ L.2.2.2 → snapM I j (L.1 j) (L.2.1 j)
def ledM (I : Nat → Nat → Int32) (L : Led) : Prop := ledS I L ∧ curM I (L.1 L.2.2.1) (L.2.1 L.2.2.1)
/-- a new moment: its number, how far the others move, and all moments then -/
def rn (t : Nat) : Nat := if t = 20 then 20 else t + 1
def rb (t : Nat) : Nat := if t = 20 then 1 else 0
def recL (L : Led) (c : Ch) (s : Nat → List Wd) : Led := (fun j => if j = rn L.2.2.1 then c else L.1 (j + rb L.2.2.1), fun j => if j = rn L.2.2.1 then s else L.2.1 (j + rb L.2.2.1), rn L.2.2.1, rn L.2.2.1)
theorem rn_le {t : Nat} (h : t ≤ 20) : rn t ≤ 20 := by unfold rn; split <;> omega
theorem rnb {t j : Nat} (h : t ≤ 20) (hj : j ≤ rn t) (hn : j ≠ rn t) : j + rb t ≤ t := by
  unfold rn at hj hn
  unfold rb
  by_cases h20 : t = 20
  · rw [if_pos h20] at hj hn
    rw [if_pos h20]
    omega
  · rw [if_neg h20] at hj hn
    rw [if_neg h20]
    omega
theorem recL_ok {L : Led} (hL : ledOk L) {c : Ch} {s : Nat → List Wd} (hc : chOk c) (hs : ∀ k, k < 4 → wdOk (s k)) : ledOk (recL L c s) := by
  obtain ⟨h1, h2, h3⟩ := hL
  have ht : L.2.2.1 ≤ 20 := Nat.le_trans h1 h2
  refine ⟨Nat.le_refl _, rn_le ht, fun j hj => ?_⟩
  show chOk (if j = rn L.2.2.1 then c else L.1 (j + rb L.2.2.1)) ∧ ∀ k, k < 4 → wdOk ((if j = rn L.2.2.1 then s else L.2.1 (j + rb L.2.2.1)) k)
  by_cases h : j = rn L.2.2.1
  · rw [if_pos h, if_pos h]; exact ⟨hc, hs⟩
  · rw [if_neg h, if_neg h]
    exact h3 _ (Nat.le_trans (rnb ht hj h) h1)
theorem len_i {l : List Wd} {i : Nat} {w : Wd} (h : l[i]? = some w) : i < l.length := (List.getElem?_eq_some_iff.mp h).1
theorem snapM_w {I I' : Nat → Nat → Int32} {j j' : Nat} {c : Ch} {s : Nat → List Wd} (hs : ∀ k, k < 4 → (s k).length ≤ 60) (h : ∀ x, x < 728 → I' 29 (728 * j' + x) = I 29 (728 * j + x)) (hm : snapM I j c s) : snapM I' j' c s := by
  obtain ⟨⟨a0, a1, a2, a3⟩, a4⟩ := hm
  have h0 := h 0 (by omega)
  rw [Nat.add_zero, Nat.add_zero] at h0
  refine ⟨⟨h0.trans a0, (h 1 (by omega)).trans a1, (h 2 (by omega)).trans a2, (h 3 (by omega)).trans a3⟩, fun k hk => ?_⟩
  obtain ⟨b0, b1⟩ := a4 k hk
  have hl := hs k hk
  refine ⟨?_, fun i w hw => ?_⟩
  · rw [Nat.add_assoc, h (4 + k) (by omega), ← Nat.add_assoc]; exact b0
  · have hi := len_i hw
    obtain ⟨c0, c1, c2⟩ := b1 i w hw
    refine ⟨?_, ?_, ?_⟩
    · rw [Nat.add_assoc (728 * j'), h (8 + (180 * k + 3 * i + 0)) (by omega), ← Nat.add_assoc (728 * j)]; exact c0
    · rw [Nat.add_assoc (728 * j'), h (8 + (180 * k + 3 * i + 1)) (by omega), ← Nat.add_assoc (728 * j)]; exact c1
    · rw [Nat.add_assoc (728 * j'), h (8 + (180 * k + 3 * i + 2)) (by omega), ← Nat.add_assoc (728 * j)]; exact c2
theorem mkeep_29 (I : Nat → Nat → Int32) (t b : Nat) : mkeep I t 29 b = mrow I t 4 720 b := by
  unfold mkeep
  rw [zU_n _ _ _ _ _ _ (fun h => absurd h.1 (by decide)), zW_e]
theorem mkeep_o (I : Nat → Nat → Int32) (t a b : Nat) (h : a ≠ 29) (h2 : ¬ (a = 0 ∧ b = 36)) : mkeep I t a b = I a b := by
  unfold mkeep
  rw [zU_n _ _ _ _ _ _ h2, zW_n _ _ _ _ h]
theorem mkeep_r (I : Nat → Nat → Int32) (t x : Nat) (hx : x < 728) : mkeep I t 29 (728 * t + x) = mrec I x := by
  rw [mkeep_29]
  unfold mrow
  rw [if_pos (by omega), Nat.add_sub_cancel_left]
theorem mkeep_n (I : Nat → Nat → Int32) (t j x : Nat) (hx : x < 728) (h : j ≠ t) : mkeep I t 29 (728 * j + x) = I 29 (728 * j + x) := by
  rw [mkeep_29]
  unfold mrow
  rw [if_neg (by omega)]
theorem keep_snap {I : Nat → Nat → Int32} {t : Nat} {c : Ch} {s : Nat → List Wd} (hr : c.2.1 ≤ 1) (hs : ∀ k, k < 4 → (s k).length ≤ 60) (h : curM I c s) : snapM (mkeep I t) t c s := by
  obtain ⟨⟨a0, a1, a2, a3⟩, a4⟩ := h
  have h0 := mkeep_r I t 0 (by omega)
  rw [Nat.add_zero] at h0
  refine ⟨⟨h0.trans a0, (mkeep_r I t 1 (by omega)).trans ?_, (mkeep_r I t 2 (by omega)).trans a2, (mkeep_r I t 3 (by omega)).trans a3⟩, fun k hk => ?_⟩
  · show (if I 0 2 = 0 then (0 : Int32) else 1) = _
    rw [a1]
    rcases (show c.2.1 = 0 ∨ c.2.1 = 1 by omega) with h | h <;> rw [h] <;> rfl
  · have hl := hs k hk
    obtain ⟨b0, b1⟩ := a4 k hk
    refine ⟨?_, fun i w hw => ?_⟩
    · rw [Nat.add_assoc, mkeep_r I t (4 + k) (by omega), ← b0]
      unfold mrec
      rw [if_neg (by omega), if_neg (by omega), if_neg (by omega), if_neg (by omega), if_pos (by omega), Nat.add_sub_cancel_left]
    · have hi := len_i hw
      obtain ⟨c0, c1, c2⟩ := b1 i w hw
      refine ⟨?_, ?_, ?_⟩
      · rw [Nat.add_assoc (728 * t), mkeep_r I t _ (by omega), mrec_m I k i 0 (by omega) (by omega)]; exact c0
      · rw [Nat.add_assoc (728 * t), mkeep_r I t _ (by omega), mrec_m I k i 1 (by omega) (by omega)]; exact c1
      · rw [Nat.add_assoc (728 * t), mkeep_r I t _ (by omega), mrec_m I k i 2 (by omega) (by omega)]; exact c2
theorem take_cur {I : Nat → Nat → Int32} {t : Nat} {c : Ch} {s : Nat → List Wd} (hr : c.2.1 ≤ 1) (hs : ∀ k, k < 4 → (s k).length ≤ 60) (h : snapM I t c s) : curM (mtake I t) c s := by
  obtain ⟨⟨a0, a1, a2, a3⟩, a4⟩ := h
  refine ⟨⟨?_, ?_, ?_, ?_⟩, fun k hk => ?_⟩
  · simp [mtake, tkr, tk0, a0]
  · simp only [mtake, tkr, tk0, if_true, if_neg (show ¬ 2 = 1 by decide), a1]
    rcases (show c.2.1 = 0 ∨ c.2.1 = 1 by omega) with h | h <;> rw [h] <;> rfl
  · simp [mtake, tkr, tk0, a2]
  · simp [mtake, tkr, tk0, a3]
  · have hl := hs k hk
    obtain ⟨b0, b1⟩ := a4 k hk
    refine ⟨?_, fun i w hw => ?_⟩
    · rw [← b0]; simp [mtake, tkr, hk]
    · have hi := len_i hw
      have hb : 60 * k + i < 240 := by omega
      obtain ⟨c0, c1, c2⟩ := b1 i w hw
      have hp : ∀ c, tkp t (60 * k + i) c = 728 * t + 8 + (180 * k + 3 * i + c) := fun c => by
        unfold tkp
        rw [show (60 * k + i) / 60 = k by omega, show (60 * k + i) % 60 = i by omega]
      refine ⟨?_, ?_, ?_⟩
      · rw [← c0, ← hp 0]; simp [mtake, tkr, hb]
      · rw [← c1, ← hp 1]; simp [mtake, tkr, hb]
      · rw [← c2, ← hp 2]; simp [mtake, tkr, hb]
theorem macted_o (I : Nat → Nat → Int32) (t a b : Nat) (h : a ≠ 29) (h2 : ¬ (a = 0 ∧ (b = 36 ∨ b = 37))) : macted I t a b = I a b := by
  unfold macted
  by_cases ht : t = 20
  · rw [if_pos ht, mkeep_o _ _ _ _ h (fun hh => h2 ⟨hh.1, Or.inl hh.2⟩)]
    unfold mshf
    rw [if_neg (fun hh => h hh.1)]
  · rw [if_neg ht, mkeep_o _ _ _ _ h (fun hh => h2 ⟨hh.1, Or.inl hh.2⟩), zU_n _ _ _ _ _ _ (fun hh => h2 ⟨hh.1, Or.inr hh.2⟩)]
theorem curM_mv {I I' : Nat → Nat → Int32} {c : Ch} {s : Nat → List Wd} (h0 : ∀ b, 1 ≤ b → b ≤ 4 → I' 0 b = I 0 b) (h1 : ∀ a b, 23 ≤ a → a ≤ 26 → I' a b = I a b) (h : curM I c s) : curM I' c s := by
  obtain ⟨⟨a0, a1, a2, a3⟩, a4⟩ := h
  refine ⟨⟨(h0 1 (by omega) (by omega)).trans a0, (h0 2 (by omega) (by omega)).trans a1, (h0 3 (by omega) (by omega)).trans a2, (h0 4 (by omega) (by omega)).trans a3⟩, fun k hk => ?_⟩
  obtain ⟨b0, b1⟩ := a4 k hk
  refine ⟨(h1 _ _ (by omega) (by omega)).trans b0, fun i w hw => ?_⟩
  obtain ⟨c0, c1, c2⟩ := b1 i w hw
  exact ⟨(h1 _ _ (by omega) (by omega)).trans c0, (h1 _ _ (by omega) (by omega)).trans c1, (h1 _ _ (by omega) (by omega)).trans c2⟩
/-- a new moment in the reference -/
theorem acted_led {I : Nat → Nat → Int32} {L : Led} {c : Ch} {s : Nat → List Wd} (hL : ledOk L) (hc : chOk c) (hs : ∀ k, k < 4 → wdOk (s k)) (hS : ledS I L) (h : curM I c s) : ledM (macted I L.2.2.1) (recL L c s) := by
  obtain ⟨l1, l2, l3⟩ := hL
  obtain ⟨s1, s2, s3⟩ := hS
  have ht : L.2.2.1 ≤ 20 := Nat.le_trans l1 l2
  have hr : c.2.1 ≤ 1 := hc.2.2.1
  have hs' : ∀ k, k < 4 → (s k).length ≤ 60 := fun k hk => (hs k hk).1
  have hcur : curM (macted I L.2.2.1) c s := curM_mv (fun b h1 h2 => macted_o _ _ _ _ (by decide) (by omega)) (fun a b h1 h2 => macted_o _ _ _ _ (by omega) (by omega)) h
  have e1 : (recL L c s).1 (recL L c s).2.2.1 = c := if_pos rfl
  have e2 : (recL L c s).2.1 (recL L c s).2.2.1 = s := if_pos rfl
  refine ⟨⟨?_, ?_, fun j hj => ?_⟩, by rw [e1, e2]; exact hcur⟩
  · show macted I L.2.2.1 0 37 = nI (rn L.2.2.1)
    unfold macted rn
    by_cases h20 : L.2.2.1 = 20
    · rw [if_pos h20, if_pos h20, mkeep_o _ _ _ _ (by decide) (by omega)]
      unfold mshf
      rw [if_neg (by omega), s1, h20]
    · rw [if_neg h20, if_neg h20, mkeep_o _ _ _ _ (by decide) (by omega), zU_e]
  · show macted I L.2.2.1 0 36 = nI (rn L.2.2.1 + 1)
    unfold macted rn
    by_cases h20 : L.2.2.1 = 20
    · rw [if_pos h20, if_pos h20]
      exact zU_e _ _ _ _
    · rw [if_neg h20, if_neg h20]
      exact zU_e _ _ _ _
  · show snapM (macted I L.2.2.1) j (if j = rn L.2.2.1 then c else L.1 (j + rb L.2.2.1)) (if j = rn L.2.2.1 then s else L.2.1 (j + rb L.2.2.1))
    have hj : j ≤ rn L.2.2.1 := hj
    by_cases hn : j = rn L.2.2.1
    · rw [if_pos hn, if_pos hn, hn]
      unfold macted rn
      by_cases h20 : L.2.2.1 = 20
      · rw [if_pos h20, if_pos h20]
        exact keep_snap hr hs' (curM_mv (fun b h1 h2 => by unfold mshf; rw [if_neg (by omega)]) (fun a b h1 h2 => by unfold mshf; rw [if_neg (by omega)]) h)
      · rw [if_neg h20, if_neg h20]
        exact keep_snap hr hs' (curM_mv (fun b h1 h2 => zU_n _ _ _ _ _ _ (by omega)) (fun a b h1 h2 => zU_n _ _ _ _ _ _ (by omega)) h)
    · rw [if_neg hn, if_neg hn]
      have hb := rnb ht hj hn
      have hl : ∀ k, k < 4 → ((L.2.1 (j + rb L.2.2.1)) k).length ≤ 60 := fun k hk => ((l3 _ (Nat.le_trans hb l1)).2 k hk).1
      refine snapM_w hl (fun x hx => ?_) (s3 _ (Nat.le_trans hb l1))
      unfold macted
      unfold rn at hn hj
      unfold rb at hb ⊢
      by_cases h20 : L.2.2.1 = 20
      · rw [if_pos h20] at hn hb ⊢
        rw [mkeep_n _ _ _ _ hx hn, if_pos h20]
        unfold mshf
        rw [if_pos (by omega)]
        congr 1
        omega
      · rw [if_neg h20] at hn hb ⊢
        rw [if_neg h20, mkeep_n _ _ _ _ hx hn, zU_n _ _ _ _ _ _ (by omega)]
        rfl
/-- back or on to another moment in the reference -/
theorem take_led {I : Nat → Nat → Int32} {L : Led} {t : Nat} (hL : ledOk L) (hS : ledS I L) (ht : t ≤ L.2.2.2) : ledM (mtake (zU I 0 37 (nI t)) t) (L.1, L.2.1, t, L.2.2.2) := by
  obtain ⟨l1, l2, l3⟩ := hL
  obtain ⟨s1, s2, s3⟩ := hS
  have hm : ∀ x : Nat, mtake (zU I 0 37 (nI t)) t 29 x = I 29 x := fun x => by
    unfold mtake
    rw [tkr_29, zU_n _ _ _ _ _ _ (by omega)]
  have hsn : ∀ j, j ≤ L.2.2.2 → snapM (zU I 0 37 (nI t)) j (L.1 j) (L.2.1 j) := fun j hj => snapM_w (fun k hk => ((l3 j hj).2 k hk).1) (fun x hx => zU_n _ _ _ _ _ _ (by omega)) (s3 j hj)
  refine ⟨⟨?_, ?_, fun j hj => snapM_w (fun k hk => ((l3 j hj).2 k hk).1) (fun x hx => hm _) (s3 j hj)⟩, ?_⟩
  · show mtake (zU I 0 37 (nI t)) t 0 37 = nI t
    simp [mtake, tkr, tk0, zU]
  · show mtake (zU I 0 37 (nI t)) t 0 36 = nI (L.2.2.2 + 1)
    rw [← s2]
    simp [mtake, tkr, tk0, zU]
  · exact take_cur (l3 t ht).1.2.2.1 (fun k hk => ((l3 t ht).2 k hk).1) (hsn t ht)
theorem mtake_o (I : Nat → Nat → Int32) (t a b : Nat) (h0 : ¬ (a = 0 ∧ 1 ≤ b ∧ b ≤ 4)) (h1 : ¬ (23 ≤ a ∧ a ≤ 26)) : mtake I t a b = I a b := by
  unfold mtake tkr
  by_cases ha : a = 0
  · subst ha
    rw [if_pos rfl]
    unfold tk0
    rw [if_neg (by omega), if_neg (by omega), if_neg (by omega), if_neg (by omega)]
  · rw [if_neg ha, if_neg (by omega), if_neg (by omega), if_neg (by omega), if_neg (by omega)]
