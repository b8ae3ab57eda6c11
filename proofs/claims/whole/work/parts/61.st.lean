/-! works of the class, and all that it holds -/
def mixX (h : Zh) (o : Nat → Nat) : Prop := zR h 0 8 = none ∨ ∃ s p q n, zR h 0 8 = some s ∧ (∀ a, a < 5 → s + a < zN h ∧ o (s + a) = 3) ∧ (p < zN h ∧ o p = 3) ∧ (q < zN h ∧ o q = 3) ∧ (s + 4 < p ∧ p < q) ∧ (∀ a, a < 4 → zR h s a = some (s + 1 + a)) ∧ (zR h s 4 = some p ∧ zR h s 5 = some q) ∧ (zL h (s + 1) = 60 ∧ zL h (s + 2) = 60 ∧ zL h (s + 3) = 60 ∧ zL h (s + 4) = 257) ∧ (zL h p = n ∧ zL h q = n) ∧ n ∈ [64, 128, 256, 512, 1024, 2048, 4096]
def iceX (h : Zh) (o : Nat → Nat) : Prop := zR h 0 7 = none ∨ ∃ s, zR h 0 7 = some s ∧ (∀ a, a < 10 → s + a < zN h ∧ o (s + a) = 4) ∧ (∀ a, a < 9 → zR h s a = some (s + 1 + a) ∧ zL h (s + 1 + a) = [20, 400, 400, 400, 400, 64, 8, 8, 8].getD a 0)
def secX (SC : Ch → (Nat → Nat → Int32) → (Nat → Nat → Int64) → Prop) (h : Zh) (o : Nat → Nat) : Prop := zR h 0 6 = none ∨ ∃ s, zR h 0 6 = some s ∧ (∀ a, a < 9 → s + a < zN h ∧ o (s + a) = 5) ∧ (∀ a, a < 8 → zR h s a = some (s + 1 + a) ∧ zL h (s + 1 + a) = [38, 70, 100, 11, 11, 10, 11, 11].getD a 0) ∧ (zR h s 8 = none ∧ zR h s 9 = none ∨ ∃ p q, zR h s 8 = some p ∧ zR h s 9 = some q ∧ (p < zN h ∧ o p = 5) ∧ (q < zN h ∧ o q = 5) ∧ (s + 8 < p ∧ p < q) ∧ zL h p = 256 ∧ zL h q = 256) ∧ (zR h s 10 = none ∨ ∃ c ch, zR h s 10 = some c ∧ chX h o c ch ∧ chOk ch ∧ SC ch (fun a k => if a < 9 then zI h (s + a) k else 0) (fun a k => if a < 9 then zJ h (s + a) k else 0))
def stX (SC : Ch → (Nat → Nat → Int32) → (Nat → Nat → Int64) → Prop) (h : Zh) (o : Nat → Nat) (L : Led) (n : Nat) (w : Nat → Wt) (S : Nat → Option Sh) (fa tr : Int32) : Prop := fixX h o ∧ ledX h o L ∧ weiX h o n w ∧ shX h o S ∧ (zI h 0 5 = fa ∧ zI h 11 0 = tr) ∧ mixX h o ∧ iceX h o ∧ secX SC h o
def stM (I : Nat → Nat → Int32) (L : Led) (n : Nat) (w : Nat → Wt) (S : Nat → Option Sh) (fa tr : Int32) : Prop := ledM I L ∧ weiM I n w ∧ shM I S ∧ I 0 0 = fa ∧ I 0 42 = tr
def stOk (L : Led) (n : Nat) (w : Nat → Wt) (S : Nat → Option Sh) : Prop := ledOk L ∧ weiOk n w ∧ shOk S
section Mv
variable {T : Nat → Prop} {h h' : Zh} {o o' : Nat → Nat}
theorem mixX.mv (m : zMv T h o h' o') (t3 : ¬ T 3) (e : zR h' 0 8 = zR h 0 8) (p : mixX h o) : mixX h' o' := by
  rcases p with p | ⟨s, p, q, n, h1, h2, ⟨p1, p2⟩, ⟨q1, q2⟩, h5, h6, ⟨h7, h8⟩, ⟨l1, l2, l3, l4⟩, ⟨lp, lq⟩, hn⟩
  · exact Or.inl (e.trans p)
  · have ea : ∀ a, a < 5 → zAt h h' (s + a) := fun a ha => m.2.2 _ (h2 a ha).1 (by rw [(h2 a ha).2]; exact t3)
    have ep := m.2.2 p p1 (by rw [p2]; exact t3)
    have eq := m.2.2 q q1 (by rw [q2]; exact t3)
    refine Or.inr ⟨s, p, q, n, e.trans h1, fun a ha => ⟨Nat.lt_of_lt_of_le (h2 a ha).1 m.1, (m.2.1 _ (h2 a ha).1).trans (h2 a ha).2⟩, ⟨Nat.lt_of_lt_of_le p1 m.1, (m.2.1 _ p1).trans p2⟩, ⟨Nat.lt_of_lt_of_le q1 m.1, (m.2.1 _ q1).trans q2⟩, h5, fun a ha => ((ea 0 (by omega)).2.2.2.2 a).trans (h6 a ha), ⟨((ea 0 (by omega)).2.2.2.2 4).trans h7, ((ea 0 (by omega)).2.2.2.2 5).trans h8⟩, ⟨(ea 1 (by omega)).2.1.trans l1, (ea 2 (by omega)).2.1.trans l2, (ea 3 (by omega)).2.1.trans l3, (ea 4 (by omega)).2.1.trans l4⟩, ⟨ep.2.1.trans lp, eq.2.1.trans lq⟩, hn⟩
theorem iceX.mv (m : zMv T h o h' o') (t4 : ¬ T 4) (e : zR h' 0 7 = zR h 0 7) (p : iceX h o) : iceX h' o' := by
  rcases p with p | ⟨s, h1, h2, h3⟩
  · exact Or.inl (e.trans p)
  · have ea : ∀ a, a < 10 → zAt h h' (s + a) := fun a ha => m.2.2 _ (h2 a ha).1 (by rw [(h2 a ha).2]; exact t4)
    refine Or.inr ⟨s, e.trans h1, fun a ha => ⟨Nat.lt_of_lt_of_le (h2 a ha).1 m.1, (m.2.1 _ (h2 a ha).1).trans (h2 a ha).2⟩, fun a ha => ⟨((ea 0 (by omega)).2.2.2.2 a).trans (h3 a ha).1, ?_⟩⟩
    have := (ea (1 + a) (by omega)).2.1
    rw [← Nat.add_assoc] at this
    exact this.trans (h3 a ha).2
theorem secX.mv {SC : Ch → (Nat → Nat → Int32) → (Nat → Nat → Int64) → Prop} (m : zMv T h o h' o') (t1 : ¬ T 1) (t5 : ¬ T 5) (e : zR h' 0 6 = zR h 0 6) (p : secX SC h o) : secX SC h' o' := by
  rcases p with p | ⟨s, h1, h2, h3, h4, h5⟩
  · exact Or.inl (e.trans p)
  · have ea : ∀ a, a < 9 → zAt h h' (s + a) := fun a ha => m.2.2 _ (h2 a ha).1 (by rw [(h2 a ha).2]; exact t5)
    have e0 := ea 0 (by omega)
    rw [Nat.add_zero] at e0
    refine Or.inr ⟨s, e.trans h1, fun a ha => ⟨Nat.lt_of_lt_of_le (h2 a ha).1 m.1, (m.2.1 _ (h2 a ha).1).trans (h2 a ha).2⟩, fun a ha => ⟨(e0.2.2.2.2 a).trans (h3 a ha).1, ?_⟩, ?_, ?_⟩
    · have := (ea (1 + a) (by omega)).2.1
      rw [← Nat.add_assoc] at this
      exact this.trans (h3 a ha).2
    · rcases h4 with ⟨a1, a2⟩ | ⟨p, q, a1, a2, ⟨p1, p2⟩, ⟨q1, q2⟩, a5, a6, a7⟩
      · exact Or.inl ⟨(e0.2.2.2.2 8).trans a1, (e0.2.2.2.2 9).trans a2⟩
      · have ep := m.2.2 p p1 (by rw [p2]; exact t5)
        have eq := m.2.2 q q1 (by rw [q2]; exact t5)
        exact Or.inr ⟨p, q, (e0.2.2.2.2 8).trans a1, (e0.2.2.2.2 9).trans a2, ⟨Nat.lt_of_lt_of_le p1 m.1, (m.2.1 _ p1).trans p2⟩, ⟨Nat.lt_of_lt_of_le q1 m.1, (m.2.1 _ q1).trans q2⟩, a5, ep.2.1.trans a6, eq.2.1.trans a7⟩
    · rcases h5 with h5 | ⟨c, ch, c1, c2, c3, c4⟩
      · exact Or.inl ((e0.2.2.2.2 10).trans h5)
      · refine Or.inr ⟨c, ch, (e0.2.2.2.2 10).trans c1, c2.mv m t1, c3, ?_⟩
        have f1 : (fun a k => if a < 9 then zI h' (s + a) k else 0) = (fun a k => if a < 9 then zI h (s + a) k else 0) := by
          funext a k
          by_cases ha : a < 9
          · rw [if_pos ha, if_pos ha]; exact (ea a ha).2.2.1 k
          · rw [if_neg ha, if_neg ha]
        have f2 : (fun a k => if a < 9 then zJ h' (s + a) k else 0) = (fun a k => if a < 9 then zJ h (s + a) k else 0) := by
          funext a k
          by_cases ha : a < 9
          · rw [if_pos ha, if_pos ha]; exact (ea a ha).2.2.2.1 k
          · rw [if_neg ha, if_neg ha]
        rw [f1, f2]
        exact c4
end Mv
section St
variable {SC : Ch → (Nat → Nat → Int32) → (Nat → Nat → Int64) → Prop} {h h' : Zh} {o o' : Nat → Nat} {L : Led} {n : Nat} {w : Nat → Wt} {S : Nat → Option Sh} {fa tr : Int32}
/-- nothing but the fault, and rows of works, has changed -/
theorem stX.mv {T : Nat → Prop} {fa' : Int32} (m : zMv T h o h' o') (hT : ∀ t, T t → t = 100) (e : ∀ k, zR h' 0 k = zR h 0 k) (e4 : zI h' 0 4 = zI h 0 4) (e5 : zI h' 0 5 = fa') (p : stX SC h o L n w S fa tr) (e0 : zK h' 0 = zK h 0) : stX SC h' o' L n w S fa' tr := by
  obtain ⟨p1, p2, p3, p4, ⟨p5, p6⟩, p7, p8, p9⟩ := p
  have nt : ∀ t, t ≠ 100 → ¬ T t := fun t ht hh => ht (hT t hh)
  obtain ⟨-, e1, e3, e4', e9, e10, e11⟩ := p1.at m
  have q1 : fixX h' o' := by
    obtain ⟨⟨r0, r1, r2, r3⟩, ⟨l0, l1, l2, l3⟩, ⟨l9, l10, k0⟩, hn, o0, o1, o3, o4, o9, o10, o11⟩ := p1
    have e1 := e1 (nt 101 (by decide))
    have e3 := e3 (nt 103 (by decide))
    have e4' := e4' (nt 104 (by decide))
    have e9 := e9 (nt 109 (by decide))
    have e10 := e10 (nt 110 (by decide))
    exact ⟨⟨(e _).trans r0, (e _).trans r1, (e _).trans r2, (e _).trans r3⟩, ⟨(e1.2.2.2.2 _).trans l0, (e1.2.2.2.2 _).trans l1, e3.2.1.trans l2, e4'.2.1.trans l3⟩, ⟨e9.2.1.trans l9, e10.2.1.trans l10, e0.trans k0⟩, Nat.le_trans hn m.1, (m.2.1 _ (by omega)).trans o0, (m.2.1 _ (by omega)).trans o1, (m.2.1 _ (by omega)).trans o3, (m.2.1 _ (by omega)).trans o4, (m.2.1 _ (by omega)).trans o9, (m.2.1 _ (by omega)).trans o10, (m.2.1 _ (by omega)).trans o11⟩
  exact ⟨q1, p2.mv m p1 (nt _ (by decide)) (nt _ (by decide)) (nt _ (by decide)) (nt _ (by decide)), p3.mv m p1 (nt _ (by decide)) (nt _ (by decide)) e4, p4.mv m p1 (nt _ (by decide)) (nt _ (by decide)) (fun k hk => nt _ (by omega)), ⟨e5, ((e11 (nt _ (by decide))).2.2.1 0).trans p6⟩, p7.mv m (nt _ (by decide)) (e 8), p8.mv m (nt _ (by decide)) (e 7), p9.mv m (nt _ (by decide)) (nt _ (by decide)) (e 6)⟩
/-- the fault told -/
theorem stX_f (v : Int32) (p : stX SC h o L n w S fa tr) : stX SC (zsI h 0 5 v) o L n w S v tr := by
  have o0 : o 0 = 100 := p.1.2.2.2.2.1
  exact stX.mv (T := fun t => t = 100) (zMv.sI o0) (fun _ h => h) (fun _ => rfl) (by rw [zI_s, if_neg (by omega)]) (by rw [zI_s, if_pos ⟨rfl, rfl⟩]) p rfl
end St
/-! the reference -/
section Mm
variable {I I' : Nat → Nat → Int32} {L : Led} {n : Nat} {w : Nat → Wt} {S : Nat → Option Sh} {fa tr : Int32}
theorem ledS.mv (hL : ledOk L) (h1 : I' 0 37 = I 0 37) (h2 : I' 0 36 = I 0 36) (h3 : ∀ b, I' 29 b = I 29 b) (p : ledS I L) : ledS I' L := ⟨h1.trans p.1, h2.trans p.2.1, fun j hj => snapM_w (fun k hk => ((hL.2.2 j hj).2 k hk).1) (fun x _ => h3 _) (p.2.2 j hj)⟩
theorem ledM.mv (hL : ledOk L) (h0 : ∀ b, (1 ≤ b ∧ b ≤ 4) ∨ b = 36 ∨ b = 37 → I' 0 b = I 0 b) (h1 : ∀ a b, 23 ≤ a → a ≤ 26 → I' a b = I a b) (h3 : ∀ b, I' 29 b = I 29 b) (p : ledM I L) : ledM I' L := ⟨p.1.mv hL (h0 37 (by omega)) (h0 36 (by omega)) h3, curM_mv (fun b h1 h2 => h0 b (by omega)) h1 p.2⟩
theorem weiM.mv (h0 : I' 0 19 = I 0 19) (h1 : ∀ a b, 14 ≤ a → a ≤ 17 → I' a b = I a b) (p : weiM I n w) : weiM I' n w := ⟨h0.trans p.1, fun k hk => ⟨(h1 _ _ (by omega) (by omega)).trans (p.2 k hk).1, (h1 _ _ (by omega) (by omega)).trans (p.2 k hk).2.1, (h1 _ _ (by omega) (by omega)).trans (p.2 k hk).2.2.1, (h1 _ _ (by omega) (by omega)).trans (p.2 k hk).2.2.2⟩⟩
theorem shM.mv (h1 : ∀ a b, 30 ≤ a → a ≤ 32 → I' a b = I a b) (p : shM I S) : shM I' S := fun k hk => ⟨fun hn => (h1 _ _ (by omega) (by omega)).trans ((p k hk).1 hn), fun s hs => ⟨(h1 _ _ (by omega) (by omega)).trans ((p k hk).2 s hs).1, (h1 _ _ (by omega) (by omega)).trans ((p k hk).2 s hs).2.1, fun i hi => (h1 _ _ (by omega) (by omega)).trans (((p k hk).2 s hs).2.2 i hi)⟩⟩
/-- the cells of the reference that only works use -/
def mScr (a b : Nat) : Prop := (1 ≤ a ∧ a ≤ 4) ∨ a = 33 ∨ (a = 0 ∧ b = 5)
theorem stM.mv (hL : ledOk L) (h1 : ∀ a b, ¬ mScr a b → I' a b = I a b) (p : stM I L n w S fa tr) : stM I' L n w S fa tr :=
  ⟨p.1.mv hL (fun b hb => h1 _ _ (by unfold mScr; omega)) (fun a b _ _ => h1 _ _ (by unfold mScr; omega)) (fun b => h1 _ _ (by unfold mScr; omega)), p.2.1.mv (h1 _ _ (by unfold mScr; omega)) (fun a b _ _ => h1 _ _ (by unfold mScr; omega)), p.2.2.1.mv (fun a b _ _ => h1 _ _ (by unfold mScr; omega)), (h1 _ _ (by unfold mScr; omega)).trans p.2.2.2.1, (h1 _ _ (by unfold mScr; omega)).trans p.2.2.2.2⟩
theorem stM_f (hL : ledOk L) (v : Int32) (p : stM I L n w S fa tr) : stM (zU I 0 0 v) L n w S v tr :=
  ⟨p.1.mv hL (fun b hb => zU_n _ _ _ _ _ _ (by omega)) (fun a b _ _ => zU_n _ _ _ _ _ _ (by omega)) (fun b => zU_n _ _ _ _ _ _ (by omega)), p.2.1.mv (zU_n _ _ _ _ _ _ (by omega)) (fun a b _ _ => zU_n _ _ _ _ _ _ (by omega)), p.2.2.1.mv (fun a b _ _ => zU_n _ _ _ _ _ _ (by omega)), zU_e _ _ _ _, (zU_n _ _ _ _ _ _ (by omega)).trans p.2.2.2.2⟩
end Mm
