/-! the sector that is asked for -/
abbrev Qs : Type := Ch → Nat → Nat → (Nat → Nat → Int32) → (Nat → Nat → Int64) → Prop
def seK (QT QR : Qs) (ch : Ch) (m g : Nat) (I : Nat → Nat → Int32) (J : Nat → Nat → Int64) : Prop := m ≤ ch.1 ∧ g ≤ 1 ∧ seH I ch.1 ch.2.1 m g ∧ (I 0 14 = 0 ∨ (I 0 14 = 1 ∧ QT ch m g I J)) ∧ (I 0 15 = 0 ∨ (I 0 15 = 1 ∧ QR ch m g I J))
def seC (QT QR : Qs) (ch : Ch) (I : Nat → Nat → Int32) (J : Nat → Nat → Int64) : Prop := ∃ m g, seK QT QR ch m g I J
def aI (h : Zh) (s : Nat) : Nat → Nat → Int32 := fun a k => if a < 9 then zI h (s + a) k else 0
def aJ (h : Zh) (s : Nat) : Nat → Nat → Int64 := fun a k => if a < 9 then zJ h (s + a) k else 0
def seO (h : Zh) (o : Nat → Nat) (s : Nat) : Prop := zR h s 8 = none ∧ zR h s 9 = none ∨ ∃ p q, zR h s 8 = some p ∧ zR h s 9 = some q ∧ (p < zN h ∧ o p = 5) ∧ (q < zN h ∧ o q = 5) ∧ (s + 8 < p ∧ p < q) ∧ zL h p = 256 ∧ zL h q = 256
def seB (h : Zh) (o : Nat → Nat) (s c : Nat) (ch : Ch) : Prop := zR h 0 6 = some s ∧ (∀ a, a < 9 → s + a < zN h ∧ o (s + a) = 5) ∧ seR h s ∧ seO h o s ∧ zR h s 10 = some c ∧ chX h o c ch ∧ chOk ch
theorem seB.off {h : Zh} {o : Nat → Nat} {s c : Nat} {ch : Ch} (p : seB h o s c ch) : c < s ∨ s + 8 < c := by
  apply Classical.byContradiction
  intro hh
  have h1 := (p.2.1 (c - s) (by omega)).2
  rw [show s + (c - s) = c by omega, p.2.2.2.2.2.1.1.2] at h1
  exact absurd h1 (by decide)
theorem seB.mv {h h' : Zh} {o : Nat → Nat} {s c : Nat} {ch : Ch} (h0 : 0 < s) (m : scM s h h') (p : seB h o s c ch) : seB h' o s c ch := by
  have hoff := p.off
  obtain ⟨p1, p2, p3, p4, p5, p6, p7⟩ := p
  refine ⟨(m.2.2.1 _ _).trans p1, fun a ha => ⟨by rw [m.1.1]; exact (p2 a ha).1, (p2 a ha).2⟩, p3.mv m, ?_, (m.2.2.1 _ _).trans p5, ⟨⟨by rw [m.1.1]; exact p6.1.1, p6.1.2⟩, p6.2.sc m hoff⟩, p7⟩
  rcases p4 with ⟨q1, q2⟩ | ⟨x, y, q1, q2, ⟨q3, q4⟩, ⟨q5, q6⟩, q7, q8, q9⟩
  · exact Or.inl ⟨(m.2.2.1 _ _).trans q1, (m.2.2.1 _ _).trans q2⟩
  · exact Or.inr ⟨x, y, (m.2.2.1 _ _).trans q1, (m.2.2.1 _ _).trans q2, ⟨by rw [m.1.1]; exact q3, q4⟩, ⟨by rw [m.1.1]; exact q5, q6⟩, q7, (m.2.1 _).2.trans q8, (m.2.1 _).2.trans q9⟩
theorem seB.sec {QT QR : Qs} {h : Zh} {o : Nat → Nat} {s c m g : Nat} {ch : Ch} (p : seB h o s c ch) (k : seK QT QR ch m g (aI h s) (aJ h s)) : secX (seC QT QR) h o := Or.inr ⟨s, p.1, p.2.1, p.2.2.1, p.2.2.2.1, Or.inr ⟨c, ch, p.2.2.2.2.1, p.2.2.2.2.2.1, p.2.2.2.2.2.2, m, g, k⟩⟩
theorem aI_i (h : Zh) (s a k : Nat) (ha : a < 9) : aI h s a k = zI h (s + a) k := if_pos ha
theorem aJ_i (h : Zh) (s a k : Nat) (ha : a < 9) : aJ h s a k = zJ h (s + a) k := if_pos ha
section Ops
variable {QT QR : Qs} {h h' : Zh} {o o' : Nat → Nat} {L : Led} {n : Nat} {w : Nat → Wt} {S : Nat → Option Sh} {fa tr : Int32} {I : Nat → Nat → Int32} {J : Nat → Nat → Int64}
theorem fix_pos {s : Nat} (p : stX (seC QT QR) h o L n w S fa tr) (hs : ∀ a, a < 9 → s + a < zN h ∧ o (s + a) = 5) : 0 < s := by
  apply Classical.byContradiction
  intro hh
  have h1 := (hs 0 (by omega)).2
  have h2 := p.1.2.2.2.2.1
  have : s = 0 := by omega
  rw [this, Nat.add_zero, h2] at h1
  exact absurd h1 (by decide)
theorem stX_sec {s c m g : Nat} {ch : Ch} (p : stX (seC QT QR) h o L n w S fa tr) (b : seB h o s c ch) (mv : scM s h h') (k : seK QT QR ch m g (aI h' s) (aJ h' s)) : stX (seC QT QR) h' o L n w S fa tr ∧ seB h' o s c ch := by
  have h0 := fix_pos p b.2.1
  have b' := b.mv h0 mv
  have mm := mv.mv (fun a ha => (b.2.1 a ha).2)
  obtain ⟨e0, -⟩ := p.1.at mm
  have f0 := e0 (by omega)
  refine ⟨p.works mm (fun t ht => Or.inr (Or.inr (Or.inr ht))) (fun k _ => f0.2.2.2.2 k) (f0.2.2.1 4) ((f0.2.2.1 5).trans p.2.2.2.2.1.1) f0.1 (p.2.2.2.2.2.1.mv mm (by omega) (f0.2.2.2.2 8)) (p.2.2.2.2.2.2.1.mv mm (by omega) (f0.2.2.2.2 7)) (b'.sec k), b'⟩
theorem prep_ok {s c m g : Nat} {ch : Ch} (x1 : ∀ a, a < 9 → s + a < zN h ∧ o (s + a) = 5) (x2 : seR h s) (hcs : c < s ∨ s + 8 < c) (hc : chAt h c ch.1 ch.2.1 ch.2.2.1 ch.2.2.2) (hch : chOk ch) (hm : m ≤ ch.1) (hg : g ≤ 1) : ∃ h', gX5_prepare_J3 h s (some c) (nI m) (nI (sgI g)) = some h' ∧ scM s (zsR h s 10 (some c)) h' ∧ seH (aI h' s) ch.1 ch.2.1 m g ∧ zI h' s 14 = 0 ∧ zI h' s 15 = 0 := by
  obtain ⟨q2, q8, q1, -⟩ := hch
  unfold gX5_prepare_J3
  simp only [zlt_]
  generalize hh0 : zsR h s 10 (some c) = h0
  have m0 : scM s h0 (zsI (zsI (zsI (zsI (zsI h0 s 11 (nI m)) s 12 (nI (sgI g))) s 14 0) s 15 0) s 13 0) := ((((scM.I _ _ _ _ (by omega)).tr (scM.I _ _ _ _ (by omega))).tr (scM.I _ _ _ _ (by omega))).tr (scM.I _ _ _ _ (by omega))).tr (scM.I _ _ _ _ (by omega))
  have e11 : zI (zsI (zsI (zsI (zsI (zsI h0 s 11 (nI m)) s 12 (nI (sgI g))) s 14 0) s 15 0) s 13 0) s 11 = nI m := by
    rw [zI_s, if_neg (by omega), zI_s, if_neg (by omega), zI_s, if_neg (by omega), zI_s, if_neg (by omega), zI_s, if_pos ⟨rfl, rfl⟩]
  have e12 : zI (zsI (zsI (zsI (zsI (zsI h0 s 11 (nI m)) s 12 (nI (sgI g))) s 14 0) s 15 0) s 13 0) s 12 = nI (sgI g) := by
    rw [zI_s, if_neg (by omega), zI_s, if_neg (by omega), zI_s, if_neg (by omega), zI_s, if_pos ⟨rfl, rfl⟩]
  have e14 : zI (zsI (zsI (zsI (zsI (zsI h0 s 11 (nI m)) s 12 (nI (sgI g))) s 14 0) s 15 0) s 13 0) s 14 = 0 := by
    rw [zI_s, if_neg (by omega), zI_s, if_neg (by omega), zI_s, if_pos ⟨rfl, rfl⟩]
  have e15 : zI (zsI (zsI (zsI (zsI (zsI h0 s 11 (nI m)) s 12 (nI (sgI g))) s 14 0) s 15 0) s 13 0) s 15 = 0 := by
    rw [zI_s, if_neg (by omega), zI_s, if_pos ⟨rfl, rfl⟩]
  have e13 : zI (zsI (zsI (zsI (zsI (zsI h0 s 11 (nI m)) s 12 (nI (sgI g))) s 14 0) s 15 0) s 13 0) s 13 = 0 := by
    rw [zI_s, if_pos ⟨rfl, rfl⟩]
  generalize zsI (zsI (zsI (zsI (zsI h0 s 11 (nI m)) s 12 (nI (sgI g))) s 14 0) s 15 0) s 13 0 = h6 at *
  have x20 : seR h0 s := fun a ha => by
    rw [← hh0, zR_s, if_neg (fun hh => by omega)]
    exact x2 a ha
  have hc0 : chAt h0 c ch.1 ch.2.1 ch.2.2.1 ch.2.2.2 := by rw [← hh0]; exact hc
  have rc0 : zR h6 s 10 = some c := by rw [m0.2.2.1, ← hh0, zR_s, if_pos ⟨rfl, rfl⟩]
  obtain ⟨b, hb, hk⟩ := okB_s (orbs_all q2 q8 q1 hm hg)
  unfold chK at hk
  rw [Bool.and_eq_true, Bool.and_eq_true] at hk
  have h38 := Nat.le_of_ble_eq_true hk.2.2
  refine ⟨_, prepL_ok (x20.mv m0) rc0 hcs (hc0.sc m0 hcs) q2 q8 q1 hg hm e12 e13 h38, ?_, ?_, ?_, ?_⟩
  · exact m0.tr (peH_ok ch.1 ch.2.1 m g s h6 e13 (2 ^ ch.1)).1
  · obtain ⟨a1, a2, a3, a4, a5⟩ := peH_ok ch.1 ch.2.1 m g s h6 e13 (2 ^ ch.1)
    refine ⟨?_, ?_, ?_, fun i x hi => ?_⟩
    · rw [aI_i _ _ _ _ (by omega), Nat.add_zero, a4 11 (by decide)]; exact e11
    · rw [aI_i _ _ _ _ (by omega), Nat.add_zero, a4 12 (by decide)]; exact e12
    · rw [aI_i _ _ _ _ (by omega), Nat.add_zero, a3]; rfl
    · rw [aI_i _ _ _ _ (by omega)]; exact a5 i x hi
  · rw [(peH_ok ch.1 ch.2.1 m g s h6 e13 (2 ^ ch.1)).2.2.2.1 14 (by decide)]; exact e14
  · rw [(peH_ok ch.1 ch.2.1 m g s h6 e13 (2 ^ ch.1)).2.2.2.1 15 (by decide)]; exact e15
/-- a sector made, if there is none -/
theorem secRows_ok (p : stX (seC QT QR) h o L n w S fa tr) (K : Zh → Option (Option Nat × Zh)) : ∃ h' o' s, (zcs (zR h 0 6) (zlt (zN h) (fun a29 => zlt (zA h 5 18) (fun (h3 : Zh) => zbV (gX5_init h3 a29) (fun h4 => zlt (zsR h4 0 6 (some a29)) (fun (h5 : Zh) => K h5))))) (fun a30 => K h)) = K h' ∧ stX (seC QT QR) h' o' L n w S fa tr ∧ zR h' 0 6 = some s ∧ (∀ a, a < 9 → s + a < zN h' ∧ o' (s + a) = 5) ∧ seR h' s ∧ seO h' o' s ∧ (zR h' s 10 = none ∨ ∃ c ch, zR h' s 10 = some c ∧ chX h' o' c ch ∧ chOk ch ∧ seC QT QR ch (aI h' s) (aJ h' s)) ∧ zN h' ≤ zN h + 9 ∧ zS h' ≤ zS h + 400 := by
  rcases p.2.2.2.2.2.2.2 with hn | ⟨s, e, x1, x2, x3, x4⟩
  · rw [hn, zcs_n]
    have o0 : o 0 = 100 := p.1.2.2.2.2.1
    have hN := p.1.2.2.2.1
    let b0 := zA h 5 18
    let rows : List (Nat × Nat) := [(20, 38), (20, 70), (21, 100), (21, 11), (21, 11), (21, 10), (21, 11), (21, 11)]
    let b7 := mkR (zN h) rows 0 b0
    let b8 := zsI (zsI (zsI (zsI (zsI (zsI (zsI (zsR (zsR (zsR b7 (zN h) 8 none) (zN h) 9 none) (zN h) 10 none) (zN h) 11 0) (zN h) 12 0) (zN h) 13 0) (zN h) 14 0) (zN h) 15 0) (zN h) 16 0) (zN h) 17 0
    have hini : gX5_init b0 (zN h) = some b8 := by
      have k38 : zok 38 = true := by decide
      have k70 : zok 70 = true := by decide
      have k100 : zok 100 = true := by decide
      have k11 : zok 11 = true := by decide
      have k10 : zok 10 = true := by decide
      have x38 : zx 38 = 38 := by decide
      have x70 : zx 70 = 70 := by decide
      have x100 : zx 100 = 100 := by decide
      have x11 : zx 11 = 11 := by decide
      have x10 : zx 10 = 10 := by decide
      unfold gX5_init
      repeat (first | rw [k38] | rw [k70] | rw [k100] | rw [k11] | rw [k10] | rw [x38] | rw [x70] | rw [x100] | rw [x11] | rw [x10] | rw [zlt_] | rw [zjn_] | rw [zob_s] | rw [zg_1] | rw [zbi_s] | rw [zbI_s] | rw [zbr_s] | rw [zbR_s] | rw [zbV_s] | rw [zbj_s] | rw [zbJ_s] | rw [zcs_s] | rw [zcs_n])
      rfl
    obtain ⟨⟨c1, c2⟩, c3, c4⟩ := mkR_ok (zN h) rows 0 b0 (by show zN h < zN h + 1; omega)
    let o1 : Nat → Nat := fun a => if zN h ≤ a then 5 else o a
    have ho1 : ∀ a, a < zN h → o1 a = o a := fun a ha => if_neg (by omega)
    have nb : zN b7 = zN h + 9 := c1
    have sb : zS b7 = zS h + 280 := c2
    have mAll : zMv (fun _ => False) h o b7 o1 := by
      refine ⟨by omega, ho1, fun a ha _ => ?_⟩
      have hb0 : zN b0 = zN h + 1 := rfl
      obtain ⟨d1, d2, d3⟩ := c4 a (by omega)
      exact ⟨d1.trans (zA_K (t := 5) (n := 18) (by omega)), d2.trans (zA_L (t := 5) (n := 18) (by omega)), fun k => (d3 k).1.trans (zA_I (t := 5) (n := 18) (by omega)), fun k => (d3 k).2.1.trans (zA_J (t := 5) (n := 18) (by omega)), fun k => ((d3 k).2.2.1 (Or.inl (by omega))).trans (zA_R (t := 5) (n := 18) (by omega))⟩
    have on : ∀ a, zN h ≤ a → o1 a = 5 := fun a ha => if_pos ha
    have m8 : zMv (fun t => t = 100 ∨ t = 5) h o (zsR b8 0 6 (some (zN h))) o1 := by
      have oN : o1 (zN h) = 5 := on _ (Nat.le_refl _)
      have k1 : zMv (fun t => t = 100 ∨ t = 5) b7 o1 b8 o1 := ((((((((((zMv.sR (T := fun t => t = 100 ∨ t = 5) (Or.inr oN)).tr (zMv.sR (Or.inr oN))).tr (zMv.sR (Or.inr oN))).tr (zMv.sI (Or.inr oN))).tr (zMv.sI (Or.inr oN))).tr (zMv.sI (Or.inr oN))).tr (zMv.sI (Or.inr oN))).tr (zMv.sI (Or.inr oN))).tr (zMv.sI (Or.inr oN))).tr (zMv.sI (Or.inr oN)))
      exact ((mAll.wk (fun _ hh => hh.elim)).tr k1).tr (zMv.sR (Or.inl ((ho1 0 (by omega)).trans o0)))
    rw [zlt_, zlt_]
    show ∃ h' o' s, zbV (gX5_init b0 (zN h)) _ = _ ∧ _
    rw [hini, zbV_s, zlt_]
    have n8 : zN (zsR b8 0 6 (some (zN h))) = zN h + 9 := nb
    have s8 : zS (zsR b8 0 6 (some (zN h))) = zS h + 280 := sb
    have r8 : ∀ k, k < 8 → zR (zsR b8 0 6 (some (zN h))) (zN h) k = zR b7 (zN h) k := fun k hk => by
      show zR (zsR (zsR (zsR (zsR b7 (zN h) 8 none) (zN h) 9 none) (zN h) 10 none) 0 6 (some (zN h))) (zN h) k = _
      rw [zR_s, if_neg (by omega), zR_s, if_neg (by omega), zR_s, if_neg (by omega), zR_s, if_neg (by omega)]
    have r9 : zR (zsR b8 0 6 (some (zN h))) (zN h) 8 = none ∧ zR (zsR b8 0 6 (some (zN h))) (zN h) 9 = none ∧ zR (zsR b8 0 6 (some (zN h))) (zN h) 10 = none := by
      refine ⟨?_, ?_, ?_⟩
      · show zR (zsR (zsR (zsR (zsR b7 (zN h) 8 none) (zN h) 9 none) (zN h) 10 none) 0 6 (some (zN h))) (zN h) 8 = _
        rw [zR_s, if_neg (by omega), zR_s, if_neg (by omega), zR_s, if_neg (by omega), zR_s, if_pos ⟨rfl, rfl⟩]
      · show zR (zsR (zsR (zsR (zsR b7 (zN h) 8 none) (zN h) 9 none) (zN h) 10 none) 0 6 (some (zN h))) (zN h) 9 = _
        rw [zR_s, if_neg (by omega), zR_s, if_neg (by omega), zR_s, if_pos ⟨rfl, rfl⟩]
      · show zR (zsR (zsR (zsR (zsR b7 (zN h) 8 none) (zN h) 9 none) (zN h) 10 none) 0 6 (some (zN h))) (zN h) 10 = _
        rw [zR_s, if_neg (by omega), zR_s, if_pos ⟨rfl, rfl⟩]
    have hse : seR (zsR b8 0 6 (some (zN h))) (zN h) := fun a ha => by
      have hR : ∀ k c, rows[k]? = some c → zR b7 (zN h) k = some (zN h + 1 + k) ∧ zL b7 (zN h + 1 + k) = c.2 := fun k c hc => by
        obtain ⟨d1, d2, -⟩ := c3 k c hc
        rw [Nat.zero_add] at d1
        exact ⟨d1, d2⟩
      rw [r8 a ha]
      show zR b7 (zN h) a = _ ∧ zL b7 (zN h + 1 + a) = _
      rcases (show a = 0 ∨ a = 1 ∨ a = 2 ∨ a = 3 ∨ a = 4 ∨ a = 5 ∨ a = 6 ∨ a = 7 by omega) with rfl | rfl | rfl | rfl | rfl | rfl | rfl | rfl
      · exact hR 0 _ rfl
      · exact hR 1 _ rfl
      · exact hR 2 _ rfl
      · exact hR 3 _ rfl
      · exact hR 4 _ rfl
      · exact hR 5 _ rfl
      · exact hR 6 _ rfl
      · exact hR 7 _ rfl
    have hx1 : ∀ a, a < 9 → zN h + a < zN (zsR b8 0 6 (some (zN h))) ∧ o1 (zN h + a) = 5 := fun a ha => ⟨by rw [n8]; omega, on _ (by omega)⟩
    have f0 := mAll.2.2 0 (by omega) (fun x => x)
    have e6 : zR (zsR b8 0 6 (some (zN h))) 0 6 = some (zN h) := by rw [zR_se]
    have fR : ∀ k, k ≠ 6 → zR (zsR b8 0 6 (some (zN h))) 0 k = zR h 0 k := fun k hk => by
      show zR (zsR (zsR (zsR (zsR b7 (zN h) 8 none) (zN h) 9 none) (zN h) 10 none) 0 6 (some (zN h))) 0 k = _
      rw [zR_s, if_neg (by omega), zR_s, if_neg (by omega), zR_s, if_neg (by omega), zR_s, if_neg (by omega)]
      exact f0.2.2.2.2 k
    have fI : ∀ k, zI (zsR b8 0 6 (some (zN h))) 0 k = zI h 0 k := fun k => by
      show zI (zsI (zsI (zsI (zsI (zsI (zsI (zsI b7 (zN h) 11 0) (zN h) 12 0) (zN h) 13 0) (zN h) 14 0) (zN h) 15 0) (zN h) 16 0) (zN h) 17 0) 0 k = _
      rw [zI_s, if_neg (by omega), zI_s, if_neg (by omega), zI_s, if_neg (by omega), zI_s, if_neg (by omega), zI_s, if_neg (by omega), zI_s, if_neg (by omega), zI_s, if_neg (by omega)]
      exact f0.2.2.1 k
    refine ⟨_, o1, zN h, rfl, ?_, e6, hx1, hse, Or.inl ⟨r9.1, r9.2.1⟩, Or.inl r9.2.2, by rw [n8]; exact Nat.le_refl _, by rw [s8]; omega⟩
    refine p.works m8 (fun t ht => by omega) (fun k hk => fR k (by omega)) (fI 4) ((fI 5).trans p.2.2.2.2.1.1) f0.1 (p.2.2.2.2.2.1.mv m8 (by omega) (fR 8 (by decide))) (p.2.2.2.2.2.2.1.mv m8 (by omega) (fR 7 (by decide))) (Or.inr ⟨zN h, e6, hx1, hse, Or.inl ⟨r9.1, r9.2.1⟩, Or.inl r9.2.2⟩)
  · rw [e, zcs_s]
    exact ⟨h, o, s, rfl, p, e, x1, x2, x3, x4, by omega, by omega⟩
theorem sectorOf_ok {m g : Nat} (p : stX (seC QT QR) h o L n w S fa tr) (hL : ledOk L) (hm : m ≤ (L.1 L.2.2.1).1) (hg : g ≤ 1) : ∃ h' o' s c, gX11_sectorOf h 0 (nI m) (nI (sgI g)) = some (some s, h') ∧ stX (seC QT QR) h' o' L n w S fa tr ∧ seB h' o' s c (L.1 L.2.2.1) ∧ seK QT QR (L.1 L.2.2.1) m g (aI h' s) (aJ h' s) ∧ zN h' ≤ zN h + 9 ∧ zS h' ≤ zS h + 400 := by
  unfold gX11_sectorOf
  rw [zlt_, zjn_]
  obtain ⟨h1, o1, s, e1, p1, r6, x1, x2, x3, x4, bN, bS⟩ := secRows_ok p (gX11_sectorOf_J1 0 (nI m) (nI (sgI g)))
  rw [e1]
  obtain ⟨c, cn, cx⟩ := cn_st p1 hL
  have hch := (hL.2.2 L.2.2.1 hL.1).1
  generalize L.1 L.2.2.1 = ch at *
  unfold gX11_sectorOf_J1
  rw [zlt_, r6, zlt_, cn.1, zob_s, chainNow_ok cn, zbr_s, zob_s]
  have hcs : c < s ∨ s + 8 < c := by
    apply Classical.byContradiction
    intro hh
    have h1 := (x1 (c - s) (by omega)).2
    rw [show s + (c - s) = c by omega, cx.1.2] at h1
    exact absurd h1 (by decide)
  have hnew : ∃ h' o' s' c', zbV (gX5_prepare_J3 h1 s (some c) (nI m) (nI (sgI g))) (fun h2 => zlt (zR h2 0 6) (fun r27 => (some (r27, h2)))) = some (some s', h') ∧ stX (seC QT QR) h' o' L n w S fa tr ∧ seB h' o' s' c' ch ∧ seK QT QR ch m g (aI h' s') (aJ h' s') ∧ zN h' ≤ zN h + 9 ∧ zS h' ≤ zS h + 400 := by
    obtain ⟨h', g1, g2, g3, g4, g5⟩ := prep_ok x1 x2 hcs cx.2 hch hm hg
    have mR : zMv (fun t => t = 5) h1 o1 (zsR h1 s 10 (some c)) o1 := zMv.sR (by have := (x1 0 (by omega)).2; rwa [Nat.add_zero] at this)
    have h0 := fix_pos p1 x1
    have bR : seB (zsR h1 s 10 (some c)) o1 s c ch := by
      refine ⟨by rw [zR_s, if_neg (by omega)]; exact r6, x1, fun a ha => by rw [zR_s, if_neg (by omega)]; exact x2 a ha, ?_, by rw [zR_se], cx, hch⟩
      rcases x3 with ⟨q1, q2⟩ | ⟨x, y, q1, q2, q3⟩
      · exact Or.inl ⟨by rw [zR_s, if_neg (by omega)]; exact q1, by rw [zR_s, if_neg (by omega)]; exact q2⟩
      · exact Or.inr ⟨x, y, by rw [zR_s, if_neg (by omega)]; exact q1, by rw [zR_s, if_neg (by omega)]; exact q2, q3⟩
    have b' := bR.mv h0 g2
    have kk : seK QT QR ch m g (aI h' s) (aJ h' s) := ⟨hm, hg, g3, Or.inl (by rw [aI_i _ _ _ _ (by omega), Nat.add_zero]; exact g4), Or.inl (by rw [aI_i _ _ _ _ (by omega), Nat.add_zero]; exact g5)⟩
    have mm := mR.tr (g2.mv (fun a ha => (x1 a ha).2))
    obtain ⟨e0, -⟩ := p1.1.at mm
    have f0 := e0 (by omega)
    refine ⟨h', o1, s, c, ?_, ?_, b', kk, by rw [g2.1.1]; exact bN, by rw [g2.1.2]; exact bS⟩
    · rw [g1, zbV_s, zlt_, b'.1]
    · exact p1.works mm (fun t ht => Or.inr (Or.inr (Or.inr ht))) (fun k _ => f0.2.2.2.2 k) (f0.2.2.1 4) ((f0.2.2.1 5).trans p1.2.2.2.2.1.1) f0.1 (p1.2.2.2.2.2.1.mv mm (by omega) (f0.2.2.2.2 8)) (p1.2.2.2.2.2.2.1.mv mm (by omega) (f0.2.2.2.2 7)) (b'.sec kk)
  unfold gX5_prepare
  rw [zlt_, zjn_]
  by_cases e : zR h1 s 10 = some c
  · rw [if_pos e]
    rcases x4 with x4 | ⟨c', ch', y1, y2, y3, m', g', k1, k2, k3, k4, k5⟩
    · rw [e] at x4; cases x4
    · have ec : c' = c := Option.some.inj (y1.symm.trans e)
      subst ec
      have ech : ch' = ch := by
        obtain ⟨-, a1, a2, a3, a4, -⟩ := y2
        obtain ⟨-, b1, b2, b3, b4, -⟩ := cx
        have q1 : ch'.1 = ch.1 := (nI_inj (by have := y3.2.1; omega) (by have := hch.2.1; omega)).mp (a1.symm.trans b1)
        have q2 : ch'.2.1 = ch.2.1 := (nI_inj (by have := y3.2.2.1; omega) (by have := hch.2.2.1; omega)).mp (a2.symm.trans b2)
        exact Prod.ext q1 (Prod.ext q2 (Prod.ext (a3.symm.trans b3) (a4.symm.trans b4)))
      subst ech
      have e11 : zI h1 s 11 = nI m' := by have := k3.1; rwa [aI_i _ _ _ _ (by omega), Nat.add_zero] at this
      have e12 : zI h1 s 12 = nI (sgI g') := by have := k3.2.1; rwa [aI_i _ _ _ _ (by omega), Nat.add_zero] at this
      by_cases f1 : zI h1 s 11 = nI m
      · rw [if_pos f1]
        by_cases f2 : zI h1 s 12 = nI (sgI g)
        · rw [if_pos f2, zbV_s, zlt_, r6]
          have em : m' = m := (nI_inj (by have := y3.2.1; omega) (by have := hch.2.1; omega)).mp (e11.symm.trans f1)
          have eg : g' = g := by
            have h1 := e12.symm.trans f2
            rcases (show g' = 0 ∨ g' = 1 by omega) with rfl | rfl <;> rcases (show g = 0 ∨ g = 1 by omega) with rfl | rfl
            · rfl
            · exact absurd h1 (by decide)
            · exact absurd h1 (by decide)
            · rfl
          subst em eg
          exact ⟨h1, o1, s, c', rfl, p1, ⟨r6, x1, x2, x3, e, y2, y3⟩, ⟨k1, k2, k3, k4, k5⟩, bN, bS⟩
        · rw [if_neg f2]; exact hnew
      · rw [if_neg f1]; exact hnew
  · rw [if_neg e]; exact hnew
end Ops
