/-! the product of two sums in the mixer -/
theorem makeRoom_ok {h : Zh} {o : Nat → Nat} {s p q n : Nat} (hx : mxS h o s p q n) {c : Nat} (hc : c ≤ 4096) : ∃ h' o' p' q' n', gX3_makeRoom h s (nI c) = some h' ∧ c ≤ n' ∧ mxS h' o' s p' q' n' ∧ zMv (fun t => t = 3) h o h' o' ∧ (∀ k, zI h' s k = zI h s k) ∧ (∀ a k, s < a → a ≤ s + 3 → zI h' a k = zI h a k) ∧ zN h' ≤ zN h + 2 ∧ zS h' ≤ zS h + 8192 := by
  obtain ⟨x1, x2, x3, x4, x5, ⟨x6, x7⟩, ⟨y1, y2, y3, y4⟩, ⟨z1, z2⟩, x9⟩ := id hx
  have hn : n ≤ 4096 := by simp at x9; omega
  have hn1 : 64 ≤ n := by simp at x9; omega
  unfold gX3_makeRoom
  rw [zlt_, x6, zob_s, z1, zlt_, zjn_]
  have hroom : ∃ m, m ∈ [64, 128, 256, 512, 1024, 2048, 4096] ∧ n ≤ m ∧ c ≤ m ∧ ∀ K : Int32 → Option Zh, zlp (fun (_ : Int32) => (none : Option (Zh))) (gX3_makeRoom_L2 (nI c) K) zFU (nI n) = K (nI m) := by
    have hgo : ∀ (j r : Nat), r ∈ [64, 128, 256, 512, 1024, 2048, 4096] → n ≤ r → 4096 - r ≤ j → ∃ m, m ∈ [64, 128, 256, 512, 1024, 2048, 4096] ∧ n ≤ m ∧ c ≤ m ∧ ∀ (K : Int32 → Option Zh) (fu : Nat), j < fu → zlp (fun (_ : Int32) => (none : Option (Zh))) (gX3_makeRoom_L2 (nI c) K) fu (nI r) = K (nI m) := by
      intro j
      induction j with
      | zero =>
        intro r hr hnr hj
        have : r = 4096 := by simp at hr; omega
        subst this
        refine ⟨4096, hr, hnr, hc, fun K fu hfu => ?_⟩
        obtain ⟨fu, rfl⟩ : ∃ f, fu = f + 1 := ⟨fu - 1, by omega⟩
        show gX3_makeRoom_L2 (nI c) K _ (nI 4096) = _
        unfold gX3_makeRoom_L2
        rw [if_pos (nI_le hc (by omega))]
      | succ j ih =>
        intro r hr hnr hj
        by_cases hcr : c ≤ r
        · refine ⟨r, hr, hnr, hcr, fun K fu hfu => ?_⟩
          obtain ⟨fu, rfl⟩ : ∃ f, fu = f + 1 := ⟨fu - 1, by omega⟩
          show gX3_makeRoom_L2 (nI c) K _ (nI r) = _
          unfold gX3_makeRoom_L2
          rw [if_pos (nI_le hcr (by simp at hr; omega))]
        · have hr4 : r < 4096 := by omega
          obtain ⟨m, a1, a2, a3, a4⟩ := ih (r * 2) (by simp at hr ⊢; omega) (by omega) (by simp at hr; omega)
          refine ⟨m, a1, a2, a3, fun K fu hfu => ?_⟩
          obtain ⟨fu, rfl⟩ : ∃ f, fu = f + 1 := ⟨fu - 1, by omega⟩
          rw [← a4 K fu (by omega)]
          show gX3_makeRoom_L2 (nI c) K _ (nI r) = _
          unfold gX3_makeRoom_L2
          rw [if_neg (zge_n (by omega) (by omega)), if_neg (show ¬ (4096 : Int32) ≤ nI r from zge_n (b := 4096) hr4 (by decide)), zlt_, nI_o 2, pk_mul]
    obtain ⟨m, a1, a2, a3, a4⟩ := hgo 4096 n x9 (Nat.le_refl _) (by omega)
    exact ⟨m, a1, a2, a3, fun K => a4 K zFU (by unfold zFU; omega)⟩
  obtain ⟨m, a1, a2, a3, a4⟩ := hroom
  rw [show (Int32.ofNat n : Int32) = nI n from rfl, a4]
  unfold gX3_makeRoom_J1
  rw [zlt_, x6, zob_s, z1]
  have hm4 : m ≤ 4096 := by simp at a1; omega
  by_cases hmn : m = n
  · subst hmn
    rw [if_pos (show nI m ≤ Int32.ofNat m from Int32.le_refl _)]
    exact ⟨h, o, p, q, m, rfl, a3, hx, zMv.rf h o, fun _ => rfl, fun _ _ _ _ => rfl, by omega, by omega⟩
  · rw [if_neg (show ¬ nI m ≤ Int32.ofNat n from zge_n (a := n) (by omega) (by omega))]
    have okm : zok (nI m) = true := by
      unfold zok
      rw [show (nI m).toNatClampNeg = m from zx_nI (by omega), decide_eq_true (nI_pos (by omega)), decide_eq_true (show m ≤ 60000000 by omega)]; rfl
    have xm : zx (nI m) = m := zx_nI (by omega)
    have hsN := (x1 0 (by omega)).1
    let rows : List (Nat × Nat) := [(20, m), (20, m)]
    let h' := mkR s rows 4 h
    obtain ⟨⟨c1, c2⟩, c3, c4⟩ := mkR_ok s rows 4 h (by omega)
    let o' : Nat → Nat := fun a => if zN h ≤ a then 3 else o a
    have ho : ∀ a, a < zN h → o' a = o a := fun a ha => if_neg (by omega)
    have hon : ∀ a, zN h ≤ a → o' a = 3 := fun a ha => if_pos ha
    have hN' : zN h' = zN h + 2 := c1
    have hS' : zS h' = zS h + (m + (m + 0)) := c2
    have r4 := (c3 0 (20, m) rfl)
    have r5 := (c3 1 (20, m) rfl)
    have hL : ∀ a, a < zN h → zL h' a = zL h a := fun a ha => (c4 a ha).2.1
    refine ⟨h', o', zN h, zN h + 1, m, ?_, a3, ?_, ?_, fun k => ((c4 s (by omega)).2.2 k).1, fun a k h1 h2 => ((c4 a (by have := (x1 (a - s) (by omega)).1; omega)).2.2 k).1, by omega, by omega⟩
    · repeat (first | rw [okm] | rw [xm] | rw [zlt_] | rw [zjn_] | rw [zob_s] | rw [zg_1] | rw [zbi_s] | rw [zbI_s] | rw [zbr_s] | rw [zbR_s] | rw [zbV_s] | rw [zbj_s] | rw [zbJ_s] | rw [zcs_s] | rw [zcs_n])
      rfl
    · have e6 := x4
      refine ⟨fun a ha => ⟨by have := (x1 a ha).1; omega, (ho _ (x1 a ha).1).trans (x1 a ha).2⟩, ⟨by omega, hon _ (Nat.le_refl _)⟩, ⟨by omega, hon _ (by omega)⟩, ⟨(x1 4 (by omega)).1, by omega⟩, fun a ha => (((c4 s (by omega)).2.2 a).2.2.1 (Or.inr ha)).trans (x5 a ha), ⟨r4.1, r5.1⟩, ⟨(hL _ (x1 1 (by omega)).1).trans y1, (hL _ (x1 2 (by omega)).1).trans y2, (hL _ (x1 3 (by omega)).1).trans y3, (hL _ (x1 4 (by omega)).1).trans y4⟩, ⟨r4.2.1, r5.2.1⟩, a1⟩
    · refine ⟨by omega, ho, fun a ha ht => ?_⟩
      have hs : a ≠ s := fun e => ht (by rw [e]; exact (x1 0 (by omega)).2)
      obtain ⟨d1, d2, d3⟩ := c4 a ha
      exact ⟨d1, d2, fun k => (d3 k).1, fun k => (d3 k).2.1, fun k => (d3 k).2.2.1 (Or.inl hs)⟩
/-- a pair of words: the key of their product, and both places -/
def pcd (k i j : Nat) : Nat := k * 4096 + i * 64 + j
theorem pcd_I {k i j : Nat} (hi : i < 64) (hj : j < 64) : ((nI k <<< ((12 : Int32) &&& 31)) ||| (nI i <<< ((6 : Int32) &&& 31))) ||| nI j = nI (pcd k i j) := by
  rw [nI_o 12, nI_o 6, nI_shl (by omega), nI_shl (by omega), nI_or, nI_or]
  have e1 : k * 2 ^ 12 ||| i * 2 ^ 6 = 64 * (k * 64 + i) := by
    have := Nat.two_pow_add_eq_or_of_lt (i := 12) (b := i * 2 ^ 6) (by omega) k
    rw [Nat.mul_comm k (2 ^ 12), ← this]; omega
  have e2 : 64 * (k * 64 + i) ||| j = 64 * (k * 64 + i) + j := (Nat.two_pow_add_eq_or_of_lt (i := 6) (b := j) (by omega) (k * 64 + i)).symm
  rw [e1, e2]
  congr 1
  unfold pcd
  omega
theorem pcd_d {k i j : Nat} (hi : i < 64) (hj : j < 64) : pcd k i j / 4096 = k ∧ pcd k i j / 64 % 64 = i ∧ pcd k i j % 64 = j := by unfold pcd; omega
def rowC (B : List Wd) (br : Bool) (i : Nat) (a : Wd) : Nat → List Nat
  | 0 => []
  | j + 1 => rowC B br i a j ++ (match B[j]? with | some b => if br = true ∧ comN a.1 b.1 then [] else [pcd (a.1 ^^^ b.1) i j] | none => [])
def allC (A B : List Wd) (br : Bool) : Nat → List Nat
  | 0 => []
  | i + 1 => allC A B br i ++ (match A[i]? with | some a => rowC B br i a B.length | none => [])
theorem rowC_len (B : List Wd) (br : Bool) (i : Nat) (a : Wd) : ∀ j, (rowC B br i a j).length ≤ j
  | 0 => Nat.le_refl _
  | j + 1 => by
    have := rowC_len B br i a j
    show (rowC B br i a j ++ _).length ≤ j + 1
    rw [List.length_append]
    split
    · split
      · show _ + 0 ≤ _; omega
      · show _ + 1 ≤ _; omega
    · show _ + 0 ≤ _; omega
theorem allC_len (A B : List Wd) (br : Bool) : ∀ i, (allC A B br i).length ≤ i * B.length
  | 0 => Nat.zero_le _
  | i + 1 => by
    have := allC_len A B br i
    show (allC A B br i ++ _).length ≤ (i + 1) * B.length
    rw [List.length_append, Nat.succ_mul]
    split
    · have := rowC_len B br i ‹_› B.length; omega
    · show _ + 0 ≤ _; omega
def isP (A B : List Wd) (y : Nat) : Prop := ∃ i j a b, A[i]? = some a ∧ B[j]? = some b ∧ y = pcd (a.1 ^^^ b.1) i j
theorem rowC_p {A B : List Wd} {br : Bool} {i : Nat} {a : Wd} (ha : A[i]? = some a) : ∀ j, ∀ y ∈ rowC B br i a j, isP A B y
  | 0, y, hy => by cases hy
  | j + 1, y, hy => by
    rcases List.mem_append.mp hy with hy | hy
    · exact rowC_p ha j y hy
    · cases hb : B[j]? with
      | none => rw [hb] at hy; cases hy
      | some b =>
        rw [hb] at hy
        by_cases hc : br = true ∧ comN a.1 b.1
        · simp only [if_pos hc] at hy; cases hy
        · simp only [if_neg hc] at hy
          rw [List.mem_singleton] at hy
          exact ⟨i, j, a, b, ha, hb, hy⟩
theorem allC_p {A B : List Wd} {br : Bool} : ∀ i, ∀ y ∈ allC A B br i, isP A B y
  | 0, y, hy => by cases hy
  | i + 1, y, hy => by
    rcases List.mem_append.mp hy with hy | hy
    · exact allC_p i y hy
    · cases ha : A[i]? with
      | none => rw [ha] at hy; cases hy
      | some a =>
        rw [ha] at hy
        exact rowC_p ha _ y hy
def hld (h : Zh) (p : Nat) (xs : List Nat) : Prop := ∀ i x, xs[i]? = some x → zI h p i = nI x
theorem hld_snoc {h : Zh} {p : Nat} {xs : List Nat} (x : Nat) (hx : hld h p xs) : hld (zsI h p xs.length (nI x)) p (xs ++ [x]) := by
  intro i y hy
  rw [zI_s]
  by_cases e : i = xs.length
  · subst e
    rw [List.getElem?_append_right (Nat.le_refl _), Nat.sub_self] at hy
    rw [if_pos ⟨rfl, rfl⟩, Option.some.inj hy]
  · have hlt : i < xs.length := by
      have := (List.getElem?_eq_some_iff.mp hy).1
      rw [List.length_append] at this
      simp at this
      omega
    rw [List.getElem?_append_left hlt] at hy
    rw [if_neg (fun hh => e hh.2)]
    exact hx i y hy
theorem mul_in {h : Zh} {o : Nat → Nat} {s p n : Nat} {a b : Nat} {A B : List Wd} (sa : sumX h o a A) (sb : sumX h o b B) (hA : A.length ≤ 60) (hB : B.length ≤ 60) (kA : ∀ w ∈ A, w.1 < 65536) (kB : ∀ w ∈ B, w.1 < 65536) (x6 : zR h s 4 = some p) (lp : zL h p = n) (hn : A.length * B.length ≤ n) (hn4 : n ≤ 4096) (op : o p = 3) (br : Bool) {i : Nat} {va : Wd} (hva : A[i]? = some va) {xs : List Nat} (hxs : xs.length ≤ i * B.length) : ∀ (d j : Nat) (g : Zh), j + d = B.length → rwM p p h g → hld g p (xs ++ rowC B br i va j) → ∃ h2, rwM p p h h2 ∧ hld h2 p (xs ++ rowC B br i va B.length) ∧ ∀ (K : Int32 → Zh → Option Zh) (fu : Nat), d < fu → zlp (fun (_ : Int32) (_ : Int32) (_ : Zh) => (none : Option (Zh))) (gX3_multiply_L9 s (if br = true then 1 else 0) a b (nI i) K) fu (nI (xs ++ rowC B br i va j).length) (nI j) g = K (nI (xs ++ rowC B br i va B.length).length) h2 := by
  have hi := len_i hva
  have ka := kA va (List.mem_of_getElem? hva)
  have hmul : (i + 1) * B.length ≤ A.length * B.length := Nat.mul_le_mul_right _ hi
  rw [Nat.succ_mul] at hmul
  intro d
  induction d with
  | zero =>
    intro j g hj m q
    have : j = B.length := by omega
    subst this
    refine ⟨g, m, q, fun K fu hfu => ?_⟩
    obtain ⟨fu, rfl⟩ : ∃ f, fu = f + 1 := ⟨fu - 1, by omega⟩
    have mv : zMv (fun t => t = 3) h o g o := ⟨by rw [m.1.1]; exact Nat.le_refl _, fun _ _ => rfl, fun c hc ht => ⟨(m.2.1 c).1, (m.2.1 c).2, fun k => m.2.2.2.2 c k (fun e => ht (by rw [e]; exact op)) (fun e => ht (by rw [e]; exact op)), m.2.2.2.1 c, m.2.2.1 c⟩⟩
    show gX3_multiply_L9 s _ a b (nI i) K _ _ (nI B.length) g = _
    unfold gX3_multiply_L9
    rw [count_okX (sb.mv mv (by omega)), zbi_s, if_pos (Int32.le_refl _)]
  | succ d ih =>
    intro j g hj m q
    obtain ⟨vb, hvb⟩ := get_some (l := B) (i := j) (by omega)
    have kb := kB vb (List.mem_of_getElem? hvb)
    have mv : zMv (fun t => t = 3) h o g o := ⟨by rw [m.1.1]; exact Nat.le_refl _, fun _ _ => rfl, fun c hc ht => ⟨(m.2.1 c).1, (m.2.1 c).2, fun k => m.2.2.2.2 c k (fun e => ht (by rw [e]; exact op)) (fun e => ht (by rw [e]; exact op)), m.2.2.2.1 c, m.2.2.1 c⟩⟩
    have sb' := sb.mv mv (by omega)
    have cb := count_okX sb'
    obtain ⟨-, ax, ay, az, ⟨a0, a1, a2⟩, -, ⟨la0, la1, la2⟩, wa⟩ := sa.mv mv (by omega)
    obtain ⟨-, bx, by', bz, ⟨b0, b1, b2⟩, -, ⟨lb0, lb1, lb2⟩, wb⟩ := sb'
    have v1 := (wa i va hva).1
    have w1 := (wb j vb hvb).1
    have ia : zin (nI i) (zL g ax) = true := by rw [la0]; exact zin_nI hi (by omega)
    have ib : zin (nI j) (zL g bx) = true := by rw [lb0]; exact zin_nI (by omega) (by omega)
    have hle : ¬ nI B.length ≤ nI j := zge_n (by omega) (by omega)
    have hrl := rowC_len B br i va j
    have hlen : (xs ++ rowC B br i va j).length < n := by rw [List.length_append]; omega
    have g4 : zR g s 4 = some p := (m.2.2.1 s 4).trans x6
    have ip : zin (nI (xs ++ rowC B br i va j).length) (zL g p) = true := by rw [(m.2.1 p).2, lp]; exact zin_nI hlen (by omega)
    have hJ7 : ∀ (K : Int32 → Int32 → Zh → Option Zh) (x : Int32) (g : Zh), gX3_multiply_J7 (nI j) K x g = K x (nI (j + 1)) g := fun K x g => by
      unfold gX3_multiply_J7
      rw [← nI_sc]
    by_cases hc : br = true ∧ comN va.1 vb.1
    · have hr : rowC B br i va (j + 1) = rowC B br i va j := by
        show rowC B br i va j ++ _ = _
        simp only [hvb, if_pos hc, List.append_nil]
      rw [← hr] at q
      obtain ⟨h2, c1, c2, c3⟩ := ih (j + 1) g (by omega) m q
      refine ⟨h2, c1, c2, fun K fu hfu => ?_⟩
      obtain ⟨fu, rfl⟩ : ∃ f, fu = f + 1 := ⟨fu - 1, by omega⟩
      rw [← c3 K fu (by omega), hr]
      show gX3_multiply_L9 s _ a b (nI i) K _ _ (nI j) g = _
      generalize zlp (fun (_ : Int32) (_ : Int32) (_ : Zh) => (none : Option (Zh))) (gX3_multiply_L9 s (if br = true then 1 else 0) a b (nI i) K) fu = Z
      unfold gX3_multiply_L9
      rw [cb, zbi_s, if_neg hle, zjn_, zjn_, if_neg (show ¬ (if br = true then (1 : Int32) else 0) = 0 by rw [if_pos hc.1]; decide)]
      repeat (first | rw [a0] | rw [ia] | rw [b0] | rw [ib] | rw [zx_nI (show i < 2 ^ 31 by omega)] | rw [zx_nI (show j < 2 ^ 31 by omega)] | rw [v1] | rw [w1] | rw [change_ok ka kb] | rw [if_pos hc.2] | rw [zlt_] | rw [zjn_] | rw [zob_s] | rw [zg_1] | rw [zbi_s] | rw [zbI_s] | rw [zbr_s] | rw [zbR_s] | rw [zbV_s] | rw [zbj_s] | rw [zbJ_s] | rw [zcs_s] | rw [zcs_n])
      rw [if_neg (by decide), hJ7]
    · have hr : rowC B br i va (j + 1) = rowC B br i va j ++ [pcd (va.1 ^^^ vb.1) i j] := by
        show rowC B br i va j ++ _ = _
        simp only [hvb, if_neg hc]
      have happ : xs ++ rowC B br i va (j + 1) = (xs ++ rowC B br i va j) ++ [pcd (va.1 ^^^ vb.1) i j] := by rw [hr, List.append_assoc]
      have q' := hld_snoc (pcd (va.1 ^^^ vb.1) i j) q
      rw [← happ] at q'
      obtain ⟨h2, c1, c2, c3⟩ := ih (j + 1) (zsI g p (xs ++ rowC B br i va j).length (nI (pcd (va.1 ^^^ vb.1) i j))) (by omega) (m.tr (rwM.s1 g _ _)) q'
      refine ⟨h2, c1, c2, fun K fu hfu => ?_⟩
      obtain ⟨fu, rfl⟩ : ∃ f, fu = f + 1 := ⟨fu - 1, by omega⟩
      rw [← c3 K fu (by omega)]
      have hll : (xs ++ rowC B br i va (j + 1)).length = (xs ++ rowC B br i va j).length + 1 := by rw [happ, List.length_append]; rfl
      have hJ8 : ∀ K' : Int32 → Zh → Option Zh, gX3_multiply_J8 s a b (nI i) (nI (xs ++ rowC B br i va j).length) (nI j) g K' = K' (nI (xs ++ rowC B br i va (j + 1)).length) (zsI g p (xs ++ rowC B br i va j).length (nI (pcd (va.1 ^^^ vb.1) i j))) := fun K' => by
        unfold gX3_multiply_J8
        repeat (first | rw [g4] | rw [a0] | rw [ia] | rw [b0] | rw [ib] | rw [zx_nI (show i < 2 ^ 31 by omega)] | rw [zx_nI (show j < 2 ^ 31 by omega)] | rw [v1] | rw [w1] | rw [nI_xor] | rw [pcd_I (show i < 64 by omega) (show j < 64 by omega)] | rw [ip] | rw [zx_nI (show (xs ++ rowC B br i va j).length < 2 ^ 31 by omega)] | rw [← nI_sc] | rw [← hll] | rw [zlt_] | rw [zjn_] | rw [zob_s] | rw [zg_1] | rw [zbi_s] | rw [zbI_s] | rw [zbr_s] | rw [zbR_s] | rw [zbV_s] | rw [zbj_s] | rw [zbJ_s] | rw [zcs_s] | rw [zcs_n])
      show gX3_multiply_L9 s _ a b (nI i) K _ _ (nI j) g = _
      generalize zlp (fun (_ : Int32) (_ : Int32) (_ : Zh) => (none : Option (Zh))) (gX3_multiply_L9 s (if br = true then 1 else 0) a b (nI i) K) fu = Z
      unfold gX3_multiply_L9
      rw [cb, zbi_s, if_neg hle, zjn_, zjn_]
      cases br with
      | false => rw [if_pos (show (if false = true then (1 : Int32) else 0) = 0 from rfl), hJ8, hJ7]
      | true =>
        have hnc : ¬ comN va.1 vb.1 := fun hh => hc ⟨rfl, hh⟩
        rw [if_neg (show ¬ (if true = true then (1 : Int32) else 0) = 0 by decide)]
        repeat (first | rw [a0] | rw [ia] | rw [b0] | rw [ib] | rw [zx_nI (show i < 2 ^ 31 by omega)] | rw [zx_nI (show j < 2 ^ 31 by omega)] | rw [v1] | rw [w1] | rw [change_ok ka kb] | rw [if_neg hnc] | rw [zlt_] | rw [zjn_] | rw [zob_s] | rw [zg_1] | rw [zbi_s] | rw [zbI_s] | rw [zbr_s] | rw [zbR_s] | rw [zbV_s] | rw [zbj_s] | rw [zbJ_s] | rw [zcs_s] | rw [zcs_n])
        rw [if_pos rfl, hJ8, hJ7]
theorem mul_all {h : Zh} {o : Nat → Nat} {s p n : Nat} {a b : Nat} {A B : List Wd} (sa : sumX h o a A) (sb : sumX h o b B) (hA : A.length ≤ 60) (hB : B.length ≤ 60) (kA : ∀ w ∈ A, w.1 < 65536) (kB : ∀ w ∈ B, w.1 < 65536) (x6 : zR h s 4 = some p) (lp : zL h p = n) (hn : A.length * B.length ≤ n) (hn4 : n ≤ 4096) (op : o p = 3) (br : Bool) : ∀ (d i : Nat) (g : Zh), i + d = A.length → rwM p p h g → hld g p (allC A B br i) → ∃ h2, rwM p p h h2 ∧ hld h2 p (allC A B br A.length) ∧ ∀ (K : Int32 → Zh → Option Zh) (fu : Nat), d < fu → zlp (fun (_ : Int32) (_ : Int32) (_ : Zh) => (none : Option (Zh))) (gX3_multiply_L10 s (if br = true then 1 else 0) a b K) fu (nI (allC A B br i).length) (nI i) g = K (nI (allC A B br A.length).length) h2 := by
  intro d
  induction d with
  | zero =>
    intro i g hi m q
    have : i = A.length := by omega
    subst this
    refine ⟨g, m, q, fun K fu hfu => ?_⟩
    obtain ⟨fu, rfl⟩ : ∃ f, fu = f + 1 := ⟨fu - 1, by omega⟩
    have mv : zMv (fun t => t = 3) h o g o := ⟨by rw [m.1.1]; exact Nat.le_refl _, fun _ _ => rfl, fun c hc ht => ⟨(m.2.1 c).1, (m.2.1 c).2, fun k => m.2.2.2.2 c k (fun e => ht (by rw [e]; exact op)) (fun e => ht (by rw [e]; exact op)), m.2.2.2.1 c, m.2.2.1 c⟩⟩
    show gX3_multiply_L10 s _ a b K _ _ (nI A.length) g = _
    unfold gX3_multiply_L10
    rw [count_okX (sa.mv mv (by omega)), zbi_s, if_pos (Int32.le_refl _)]
  | succ d ih =>
    intro i g hi m q
    obtain ⟨va, hva⟩ := get_some (l := A) (i := i) (by omega)
    have hr : allC A B br (i + 1) = allC A B br i ++ rowC B br i va B.length := by
      show allC A B br i ++ _ = _
      simp only [hva]
    have mv : zMv (fun t => t = 3) h o g o := ⟨by rw [m.1.1]; exact Nat.le_refl _, fun _ _ => rfl, fun c hc ht => ⟨(m.2.1 c).1, (m.2.1 c).2, fun k => m.2.2.2.2 c k (fun e => ht (by rw [e]; exact op)) (fun e => ht (by rw [e]; exact op)), m.2.2.2.1 c, m.2.2.1 c⟩⟩
    obtain ⟨h2, c1, c2, c3⟩ := mul_in sa sb hA hB kA kB x6 lp hn hn4 op br hva (allC_len A B br i) B.length 0 g (by omega) m (by
      show hld g p (allC A B br i ++ [])
      rw [List.append_nil]; exact q)
    rw [← hr] at c2 c3
    obtain ⟨h3, e1, e2, e3⟩ := ih (i + 1) h2 (by omega) c1 c2
    refine ⟨h3, e1, e2, fun K fu hfu => ?_⟩
    obtain ⟨fu, rfl⟩ : ∃ f, fu = f + 1 := ⟨fu - 1, by omega⟩
    rw [← e3 K fu (by omega)]
    show gX3_multiply_L10 s _ a b K _ (nI (allC A B br i).length) (nI i) g = _
    generalize zlp (fun (_ : Int32) (_ : Int32) (_ : Zh) => (none : Option (Zh))) (gX3_multiply_L10 s (if br = true then 1 else 0) a b K) fu = Z
    have := c3 (gX3_multiply_J6 (nI i) Z) zFU (by unfold zFU; omega)
    rw [show allC A B br i ++ rowC B br i va 0 = allC A B br i from List.append_nil _] at this
    unfold gX3_multiply_L10
    rw [count_okX (sa.mv mv (by omega)), zbi_s, if_neg (zge_n (by omega) (by omega)), zjn_]
    refine Eq.trans this ?_
    unfold gX3_multiply_J6
    rw [← nI_sc]
