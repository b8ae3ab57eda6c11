/-! owners of cells: 1 never changed again, 10 .. 13 rows of sheets, 3 mixer, 4 ice, 5 sector, 100 and more: the first cells -/
def zAt (h h' : Zh) (a : Nat) : Prop := zK h' a = zK h a ∧ zL h' a = zL h a ∧ (∀ k, zI h' a k = zI h a k) ∧ (∀ k, zJ h' a k = zJ h a k) ∧ ∀ k, zR h' a k = zR h a k
theorem zAt.rf (h : Zh) (a : Nat) : zAt h h a := ⟨rfl, rfl, fun _ => rfl, fun _ => rfl, fun _ => rfl⟩
theorem zAt.tr {h h' h'' : Zh} {a : Nat} (p : zAt h h' a) (q : zAt h' h'' a) : zAt h h'' a := ⟨q.1.trans p.1, q.2.1.trans p.2.1, fun k => (q.2.2.1 k).trans (p.2.2.1 k), fun k => (q.2.2.2.1 k).trans (p.2.2.2.1 k), fun k => (q.2.2.2.2 k).trans (p.2.2.2.2 k)⟩
def zMv (T : Nat → Prop) (h : Zh) (o : Nat → Nat) (h' : Zh) (o' : Nat → Nat) : Prop := zN h ≤ zN h' ∧ (∀ a, a < zN h → o' a = o a) ∧ ∀ a, a < zN h → ¬ T (o a) → zAt h h' a
theorem zMv.rf {T : Nat → Prop} (h : Zh) (o : Nat → Nat) : zMv T h o h o := ⟨Nat.le_refl _, fun _ _ => rfl, fun a _ _ => zAt.rf h a⟩
theorem zMv.tr {T : Nat → Prop} {h h' h'' : Zh} {o o' o'' : Nat → Nat} (p : zMv T h o h' o') (q : zMv T h' o' h'' o'') : zMv T h o h'' o'' :=
  ⟨Nat.le_trans p.1 q.1, fun a ha => (q.2.1 a (Nat.lt_of_lt_of_le ha p.1)).trans (p.2.1 a ha), fun a ha ht => (p.2.2 a ha ht).tr (q.2.2 a (Nat.lt_of_lt_of_le ha p.1) (by rw [p.2.1 a ha]; exact ht))⟩
theorem zMv.wk {T T' : Nat → Prop} {h h' : Zh} {o o' : Nat → Nat} (hT : ∀ t, T t → T' t) (p : zMv T h o h' o') : zMv T' h o h' o' := ⟨p.1, p.2.1, fun a ha ht => p.2.2 a ha (fun h => ht (hT _ h))⟩
theorem zMv.sI {T : Nat → Prop} {h : Zh} {o : Nat → Nat} {a k : Nat} {v : Int32} (ht : T (o a)) : zMv T h o (zsI h a k v) o := ⟨Nat.le_refl _, fun _ _ => rfl, fun b _ hb => ⟨rfl, rfl, fun j => if_neg (fun (e : b = a ∧ j = k) => hb (by rw [e.1]; exact ht)), fun _ => rfl, fun _ => rfl⟩⟩
theorem zMv.sJ {T : Nat → Prop} {h : Zh} {o : Nat → Nat} {a k : Nat} {v : Int64} (ht : T (o a)) : zMv T h o (zsJ h a k v) o := ⟨Nat.le_refl _, fun _ _ => rfl, fun b _ hb => ⟨rfl, rfl, fun _ => rfl, fun j => if_neg (fun (e : b = a ∧ j = k) => hb (by rw [e.1]; exact ht)), fun _ => rfl⟩⟩
theorem zMv.sR {T : Nat → Prop} {h : Zh} {o : Nat → Nat} {a k : Nat} {v : Option Nat} (ht : T (o a)) : zMv T h o (zsR h a k v) o := ⟨Nat.le_refl _, fun _ _ => rfl, fun b _ hb => ⟨rfl, rfl, fun _ => rfl, fun _ => rfl, fun j => if_neg (fun (e : b = a ∧ j = k) => hb (by rw [e.1]; exact ht))⟩⟩
/-- a new cell and its owner -/
def oA (h : Zh) (o : Nat → Nat) (t : Nat) : Nat → Nat := fun a => if a = zN h then t else o a
theorem oA_n {h : Zh} {o : Nat → Nat} {t : Nat} : oA h o t (zN h) = t := if_pos rfl
theorem oA_o {h : Zh} {o : Nat → Nat} {t a : Nat} (ha : a < zN h) : oA h o t a = o a := if_neg (by omega)
theorem zA_N (h : Zh) (t n : Nat) : zN (zA h t n) = zN h + 1 := rfl
theorem zA_S (h : Zh) (t n : Nat) : zS (zA h t n) = zS h + n := rfl
theorem zA_K {h : Zh} {t n a : Nat} (ha : a ≠ zN h) : zK (zA h t n) a = zK h a := by
  show (if a = h.1 then (t, n) else h.2.2.1 a).1 = _
  rw [if_neg (show ¬ a = h.1 from ha)]; rfl
theorem zA_L {h : Zh} {t n a : Nat} (ha : a ≠ zN h) : zL (zA h t n) a = zL h a := by
  show (if a = h.1 then (t, n) else h.2.2.1 a).2 = _
  rw [if_neg (show ¬ a = h.1 from ha)]; rfl
theorem zA_I {h : Zh} {t n a k : Nat} (ha : a ≠ zN h) : zI (zA h t n) a k = zI h a k := if_neg ha
theorem zA_J {h : Zh} {t n a k : Nat} (ha : a ≠ zN h) : zJ (zA h t n) a k = zJ h a k := if_neg ha
theorem zA_R {h : Zh} {t n a k : Nat} (ha : a ≠ zN h) : zR (zA h t n) a k = zR h a k := if_neg ha
theorem zA_Kn (h : Zh) (t n : Nat) : zK (zA h t n) (zN h) = t := by
  show (if zN h = h.1 then (t, n) else h.2.2.1 (zN h)).1 = _
  rw [if_pos (show zN h = h.1 from rfl)]
theorem zA_Ln (h : Zh) (t n : Nat) : zL (zA h t n) (zN h) = n := by
  show (if zN h = h.1 then (t, n) else h.2.2.1 (zN h)).2 = _
  rw [if_pos (show zN h = h.1 from rfl)]
theorem zA_In (h : Zh) (t n k : Nat) : zI (zA h t n) (zN h) k = 0 := if_pos rfl
theorem zA_Jn (h : Zh) (t n k : Nat) : zJ (zA h t n) (zN h) k = 0 := if_pos rfl
theorem zA_Rn (h : Zh) (t n k : Nat) : zR (zA h t n) (zN h) k = none := if_pos rfl
theorem zMv.A {T : Nat → Prop} {h : Zh} {o : Nat → Nat} {t n : Nat} (w : Nat) : zMv T h o (zA h t n) (oA h o w) :=
  ⟨Nat.le_succ _, fun _ ha => oA_o ha, fun a ha _ => ⟨zA_K (by omega), zA_L (by omega), fun _ => zA_I (by omega), fun _ => zA_J (by omega), fun _ => zA_R (by omega)⟩⟩
/-! what the class holds -/
def fixX (h : Zh) (o : Nat → Nat) : Prop := (zR h 0 0 = some 1 ∧ zR h 0 1 = some 9 ∧ zR h 0 2 = some 10 ∧ zR h 0 3 = some 11) ∧ ldAt h ∧ (zL h 9 = 6 ∧ zL h 10 = 4 ∧ zK h 0 = 11) ∧ 12 ≤ zN h ∧ (o 0 = 100 ∧ o 1 = 101 ∧ o 3 = 103 ∧ o 4 = 104 ∧ o 9 = 109 ∧ o 10 = 110 ∧ o 11 = 111)
def frX (h : Zh) (o : Nat → Nat) (a : Nat) : Prop := a < zN h ∧ o a = 1
def sumX (h : Zh) (o : Nat → Nat) (a : Nat) (l : List Wd) : Prop := frX h o a ∧ ∃ x y z, (zR h a 0 = some x ∧ zR h a 1 = some y ∧ zR h a 2 = some z) ∧ (frX h o x ∧ frX h o y ∧ frX h o z) ∧ (zL h x = l.length ∧ zL h y = l.length ∧ zL h z = l.length) ∧ ∀ i w, l[i]? = some w → zI h x i = nI w.1 ∧ zI h y i = w.2.1 ∧ zI h z i = w.2.2
def chX (h : Zh) (o : Nat → Nat) (a : Nat) (c : Ch) : Prop := frX h o a ∧ chAt h a c.1 c.2.1 c.2.2.1 c.2.2.2
def ledX (h : Zh) (o : Nat → Nat) (L : Led) : Prop := (zI h 1 2 = nI L.2.2.1 ∧ zI h 1 3 = nI L.2.2.2) ∧ ∀ j, j ≤ L.2.2.2 → (∃ c, zR h 3 j = some c ∧ chX h o c (L.1 j)) ∧ ∀ k, k < 4 → ∃ a, zR h 4 (4 * j + k) = some a ∧ sumX h o a (L.2.1 j k)
abbrev Wt : Type := Nat × Int32 × Int32 × Int32
def wtOk (w : Wt) : Prop := w.1 < 3 ∧ (-9 ≤ w.2.1.toInt ∧ w.2.1.toInt ≤ 9) ∧ (-9 ≤ w.2.2.1.toInt ∧ w.2.2.1.toInt ≤ 9) ∧ (-9 ≤ w.2.2.2.toInt ∧ w.2.2.2.toInt ≤ 9)
def wtK (k : Nat) : Nat := if k = 0 then 4 else if k = 1 then 10 else 7
def wtX (h : Zh) (a k : Nat) (w : Wt) : Prop := zK h a = wtK w.1 ∧ zI h a 0 = nI k ∧ zI h a 1 = w.2.1 ∧ zI h a 2 = w.2.2.1 ∧ zI h a 3 = w.2.2.2
def weiX (h : Zh) (o : Nat → Nat) (n : Nat) (w : Nat → Wt) : Prop := zI h 0 4 = nI n ∧ ∀ k, k < n → ∃ a, zR h 9 k = some a ∧ frX h o a ∧ wtX h a k (w k)
def weiM (I : Nat → Nat → Int32) (n : Nat) (w : Nat → Wt) : Prop := I 0 19 = nI n ∧ ∀ k, k < n → I 14 k = nI (w k).1 ∧ I 15 k = (w k).2.1 ∧ I 16 k = (w k).2.2.1 ∧ I 17 k = (w k).2.2.2
def weiOk (n : Nat) (w : Nat → Wt) : Prop := n ≤ 6 ∧ ∀ k, k < n → wtOk (w k)
/-- a sheet: its lane, its length, its cells -/
abbrev Sh : Type := Nat × Nat × (Nat → Int32)
def shXa (h : Zh) (o : Nat → Nat) (k : Nat) (s : Sh) : Prop := ∃ a x, zR h 10 k = some a ∧ frX h o a ∧ zI h a 0 = nI s.1 ∧ zR h a 1 = some x ∧ (x < zN h ∧ o x = 10 + k) ∧ zL h x = s.2.1 ∧ ∀ i, i < s.2.1 → zI h x i = s.2.2 i
def shX (h : Zh) (o : Nat → Nat) (S : Nat → Option Sh) : Prop := ∀ k, k < 4 → (S k = none → zR h 10 k = none) ∧ ∀ s, S k = some s → shXa h o k s
def shM (I : Nat → Nat → Int32) (S : Nat → Option Sh) : Prop := ∀ k, k < 4 → (S k = none → I 30 k = -1) ∧ ∀ s, S k = some s → I 30 k = nI s.2.1 ∧ I 31 k = nI s.1 ∧ ∀ i, i < s.2.1 → I 32 (60 * k + i) = s.2.2 i
def shOk (S : Nat → Option Sh) : Prop := ∀ k s, S k = some s → s.1 ≤ 2 ∧ s.2.1 ≤ 60
section Mv
variable {T : Nat → Prop} {h h' : Zh} {o o' : Nat → Nat}
theorem frX.mv (m : zMv T h o h' o') {a : Nat} (p : frX h o a) : frX h' o' a := ⟨Nat.lt_of_lt_of_le p.1 m.1, (m.2.1 a p.1).trans p.2⟩
theorem frX.at (m : zMv T h o h' o') (t1 : ¬ T 1) {a : Nat} (p : frX h o a) : zAt h h' a := m.2.2 a p.1 (by rw [p.2]; exact t1)
theorem sumX.mv (m : zMv T h o h' o') (t1 : ¬ T 1) {a : Nat} {l : List Wd} (p : sumX h o a l) : sumX h' o' a l := by
  obtain ⟨f, x, y, z, ⟨r0, r1, r2⟩, ⟨fx, fy, fz⟩, ⟨lx, ly, lz⟩, hw⟩ := p
  have ea := f.at m t1
  have ex := fx.at m t1
  have ey := fy.at m t1
  have ez := fz.at m t1
  refine ⟨f.mv m, x, y, z, ⟨(ea.2.2.2.2 0).trans r0, (ea.2.2.2.2 1).trans r1, (ea.2.2.2.2 2).trans r2⟩, ⟨fx.mv m, fy.mv m, fz.mv m⟩, ⟨ex.2.1.trans lx, ey.2.1.trans ly, ez.2.1.trans lz⟩, fun i w hi => ?_⟩
  obtain ⟨w0, w1, w2⟩ := hw i w hi
  exact ⟨(ex.2.2.1 i).trans w0, (ey.2.2.1 i).trans w1, (ez.2.2.1 i).trans w2⟩
theorem chAt.mv {a N r : Nat} {e d : Int32} (ea : zAt h h' a) (c : chAt h a N r e d) : chAt h' a N r e d := by
  obtain ⟨c0, c1, c2, c3, c4, c5⟩ := c
  have i := ea.2.2.1
  exact ⟨(i 0).trans c0, (i 1).trans c1, (i 2).trans c2, (i 3).trans c3, (i 4).trans c4, (i 5).trans c5⟩
theorem chX.mv (m : zMv T h o h' o') (t1 : ¬ T 1) {a : Nat} {c : Ch} (p : chX h o a c) : chX h' o' a c := ⟨p.1.mv m, p.2.mv (p.1.at m t1)⟩
theorem fixX.at (f : fixX h o) (m : zMv T h o h' o') : (¬ T 100 → zAt h h' 0) ∧ (¬ T 101 → zAt h h' 1) ∧ (¬ T 103 → zAt h h' 3) ∧ (¬ T 104 → zAt h h' 4) ∧ (¬ T 109 → zAt h h' 9) ∧ (¬ T 110 → zAt h h' 10) ∧ (¬ T 111 → zAt h h' 11) := by
  obtain ⟨-, -, -, hn, o0, o1, o3, o4, o9, o10, o11⟩ := f
  exact ⟨fun t => m.2.2 0 (by omega) (by rw [o0]; exact t), fun t => m.2.2 1 (by omega) (by rw [o1]; exact t), fun t => m.2.2 3 (by omega) (by rw [o3]; exact t), fun t => m.2.2 4 (by omega) (by rw [o4]; exact t), fun t => m.2.2 9 (by omega) (by rw [o9]; exact t), fun t => m.2.2 10 (by omega) (by rw [o10]; exact t), fun t => m.2.2 11 (by omega) (by rw [o11]; exact t)⟩
theorem ledX.mv (m : zMv T h o h' o') (f : fixX h o) (t1 : ¬ T 1) (t2 : ¬ T 101) (t3 : ¬ T 103) (t4 : ¬ T 104) {L : Led} (p : ledX h o L) : ledX h' o' L := by
  obtain ⟨⟨p1, p2⟩, p3⟩ := p
  obtain ⟨-, e1, e3, e4, -, -, -⟩ := f.at m
  refine ⟨⟨((e1 t2).2.2.1 2).trans p1, ((e1 t2).2.2.1 3).trans p2⟩, fun j hj => ?_⟩
  obtain ⟨⟨c, hc, hcx⟩, hs⟩ := p3 j hj
  refine ⟨⟨c, ((e3 t3).2.2.2.2 j).trans hc, hcx.mv m t1⟩, fun k hk => ?_⟩
  obtain ⟨a, ha, hax⟩ := hs k hk
  exact ⟨a, ((e4 t4).2.2.2.2 _).trans ha, hax.mv m t1⟩
theorem weiX.mv (m : zMv T h o h' o') (f : fixX h o) (t1 : ¬ T 1) (t9 : ¬ T 109) {n : Nat} {w : Nat → Wt} (h4 : zI h' 0 4 = zI h 0 4) (p : weiX h o n w) : weiX h' o' n w := by
  obtain ⟨p1, p2⟩ := p
  obtain ⟨-, -, -, -, e9, -, -⟩ := f.at m
  refine ⟨h4.trans p1, fun k hk => ?_⟩
  obtain ⟨a, ha, fa, k0, k1, k2, k3, k4⟩ := p2 k hk
  have ea := fa.at m t1
  exact ⟨a, ((e9 t9).2.2.2.2 k).trans ha, fa.mv m, ea.1.trans k0, (ea.2.2.1 0).trans k1, (ea.2.2.1 1).trans k2, (ea.2.2.1 2).trans k3, (ea.2.2.1 3).trans k4⟩
theorem shXa.mv (m : zMv T h o h' o') {k : Nat} (t1 : ¬ T 1) (tk : ¬ T (10 + k)) {s : Sh} (e : zR h' 10 k = zR h 10 k) (p : shXa h o k s) : shXa h' o' k s := by
  obtain ⟨a, x, ha, fa, a0, a1, ⟨x1, x2⟩, x3, x4⟩ := p
  have ea := fa.at m t1
  have ex := m.2.2 x x1 (by rw [x2]; exact tk)
  exact ⟨a, x, e.trans ha, fa.mv m, (ea.2.2.1 0).trans a0, (ea.2.2.2.2 1).trans a1, ⟨Nat.lt_of_lt_of_le x1 m.1, (m.2.1 x x1).trans x2⟩, ex.2.1.trans x3, fun i hi => (ex.2.2.1 i).trans (x4 i hi)⟩
theorem shX.mv (m : zMv T h o h' o') (f : fixX h o) (t1 : ¬ T 1) (t10 : ¬ T 110) (tk : ∀ k, k < 4 → ¬ T (10 + k)) {S : Nat → Option Sh} (p : shX h o S) : shX h' o' S := by
  obtain ⟨-, -, -, -, -, e10, -⟩ := f.at m
  intro k hk
  obtain ⟨p1, p2⟩ := p k hk
  exact ⟨fun hn => ((e10 t10).2.2.2.2 k).trans (p1 hn), fun s hs => (p2 s hs).mv m t1 (tk k hk) ((e10 t10).2.2.2.2 k)⟩
theorem fixX.mv (f : fixX h o) (m : zMv T h o h' o') (t0 : ¬ T 100) (t1 : ¬ T 101) (t3 : ¬ T 103) (t4 : ¬ T 104) (t9 : ¬ T 109) (t10 : ¬ T 110) : fixX h' o' := by
  obtain ⟨e0, e1, e3, e4, e9, e10, -⟩ := f.at m
  obtain ⟨⟨r0, r1, r2, r3⟩, ⟨l0, l1, l2, l3⟩, ⟨l9, l10, k0⟩, hn, o0, o1, o3, o4, o9, o10, o11⟩ := f
  have e0 := e0 t0
  have e1 := e1 t1
  exact ⟨⟨(e0.2.2.2.2 _).trans r0, (e0.2.2.2.2 _).trans r1, (e0.2.2.2.2 _).trans r2, (e0.2.2.2.2 _).trans r3⟩, ⟨(e1.2.2.2.2 _).trans l0, (e1.2.2.2.2 _).trans l1, (e3 t3).2.1.trans l2, (e4 t4).2.1.trans l3⟩, ⟨(e9 t9).2.1.trans l9, (e10 t10).2.1.trans l10, e0.1.trans k0⟩, Nat.le_trans hn m.1, (m.2.1 _ (by omega)).trans o0, (m.2.1 _ (by omega)).trans o1, (m.2.1 _ (by omega)).trans o3, (m.2.1 _ (by omega)).trans o4, (m.2.1 _ (by omega)).trans o9, (m.2.1 _ (by omega)).trans o10, (m.2.1 _ (by omega)).trans o11⟩
end Mv
