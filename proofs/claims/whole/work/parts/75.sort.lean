/-! sorting by a byte: counted, summed, laid -/
def cEq (d : Nat → Nat) (l : List Nat) (v : Nat) : Nat := (l.filter (fun x => Nat.beq (d x) v)).length
def cLt (d : Nat → Nat) (l : List Nat) : Nat → Nat
  | 0 => 0
  | v + 1 => cLt d l v + cEq d l v
def csN (d : Nat → Nat) (l : List Nat) : Nat → List Nat
  | 0 => []
  | v + 1 => csN d l v ++ l.filter (fun x => Nat.beq (d x) v)
theorem csN_len (d : Nat → Nat) (l : List Nat) : ∀ v, (csN d l v).length = cLt d l v
  | 0 => rfl
  | v + 1 => by
    show (csN d l v ++ l.filter (fun x => Nat.beq (d x) v)).length = cLt d l v + cEq d l v
    rw [List.length_append, csN_len d l v]; rfl
theorem csN_at (d : Nat → Nat) (l : List Nat) (v e : Nat) (he : e < cEq d l v) : ∀ n, v < n → (csN d l n)[cLt d l v + e]? = (l.filter (fun x => Nat.beq (d x) v))[e]?
  | 0, h => by omega
  | n + 1, h => by
    show (csN d l n ++ l.filter (fun x => Nat.beq (d x) n))[cLt d l v + e]? = _
    rcases (show v = n ∨ v < n by omega) with rfl | h'
    · rw [List.getElem?_append_right (by rw [csN_len]; omega), csN_len, Nat.add_sub_cancel_left]
    · have ih := csN_at d l v e he n h'
      rw [List.getElem?_append_left, ih]
      rcases Nat.lt_or_ge (cLt d l v + e) (csN d l n).length with h1 | h1
      · exact h1
      · rw [List.getElem?_eq_none h1] at ih
        have : e < (l.filter (fun x => Nat.beq (d x) v)).length := he
        rw [List.getElem?_eq_getElem this] at ih
        cases ih
theorem cLt_mono (d : Nat → Nat) (l : List Nat) : ∀ n v, v < n → cLt d l v + cEq d l v ≤ cLt d l n
  | 0, v, h => by omega
  | n + 1, v, h => by
    rcases (show v = n ∨ v < n by omega) with rfl | h'
    · exact Nat.le_refl _
    · exact Nat.le_trans (cLt_mono d l n v h') (Nat.le_add_right _ _)
theorem cLt_find (d : Nat → Nat) (l : List Nat) : ∀ n m, m < cLt d l n → ∃ v e, v < n ∧ e < cEq d l v ∧ m = cLt d l v + e
  | 0, m, h => by cases h
  | n + 1, m, h => by
    have h : m < cLt d l n + cEq d l n := h
    by_cases h1 : m < cLt d l n
    · obtain ⟨v, e, a, b⟩ := cLt_find d l n m h1
      exact ⟨v, e, by omega, b⟩
    · exact ⟨n, m - cLt d l n, by omega, by omega, by omega⟩
theorem cEq_snoc (d : Nat → Nat) (l : List Nat) (x v : Nat) : cEq d (l ++ [x]) v = cEq d l v + (if d x = v then 1 else 0) := by
  unfold cEq
  rw [List.filter_append, List.length_append]
  congr 1
  by_cases h : d x = v
  · rw [if_pos h, List.filter_cons_of_pos (by rw [h]; exact Nat.beq_refl v)]; rfl
  · rw [if_neg h, List.filter_cons_of_neg (by intro hh; exact h (Nat.eq_of_beq_eq_true hh))]; rfl
theorem cEq_take {d : Nat → Nat} {l : List Nat} {i x : Nat} (h : l[i]? = some x) (v : Nat) : cEq d (l.take (i + 1)) v = cEq d (l.take i) v + (if d x = v then 1 else 0) := by
  rw [take_sc h, cEq_snoc]
theorem filt_at {d : Nat → Nat} {l : List Nat} {i x : Nat} (h : l[i]? = some x) : (l.filter (fun y => Nat.beq (d y) (d x)))[cEq d (l.take i) (d x)]? = some x ∧ cEq d (l.take i) (d x) < cEq d l (d x) := by
  have hs : l = l.take i ++ x :: l.drop (i + 1) := by rw [← drop_c h, List.take_append_drop]
  have hf : l.filter (fun y => Nat.beq (d y) (d x)) = (l.take i).filter (fun y => Nat.beq (d y) (d x)) ++ x :: (l.drop (i + 1)).filter (fun y => Nat.beq (d y) (d x)) := by
    conv => lhs; rw [hs, List.filter_append, List.filter_cons_of_pos (p := fun y => Nat.beq (d y) (d x)) (a := x) (Nat.beq_refl (d x))]
  refine ⟨?_, ?_⟩
  · rw [hf, List.getElem?_append_right (show ((l.take i).filter (fun y => Nat.beq (d y) (d x))).length ≤ cEq d (l.take i) (d x) from Nat.le_refl _)]
    show (x :: _)[cEq d (l.take i) (d x) - cEq d (l.take i) (d x)]? = some x
    rw [Nat.sub_self]; rfl
  · show _ < (l.filter (fun y => Nat.beq (d y) (d x))).length
    rw [hf, List.length_append, List.length_cons]
    show cEq d (l.take i) (d x) < cEq d (l.take i) (d x) + _
    omega
theorem cEq_cons (d : Nat → Nat) (a : Nat) (l : List Nat) (v : Nat) : cEq d (a :: l) v = (if d a = v then 1 else 0) + cEq d l v := by
  unfold cEq
  by_cases h : d a = v
  · rw [List.filter_cons_of_pos (by rw [h]; exact Nat.beq_refl v), if_pos h, List.length_cons]; omega
  · rw [List.filter_cons_of_neg (by intro hh; exact h (Nat.eq_of_beq_eq_true hh)), if_neg h]; omega
theorem cLt_cons (d : Nat → Nat) (a : Nat) (l : List Nat) : ∀ n, cLt d (a :: l) n = (if d a < n then 1 else 0) + cLt d l n
  | 0 => by simp [cLt]
  | n + 1 => by
    show cLt d (a :: l) n + cEq d (a :: l) n = (if d a < n + 1 then 1 else 0) + (cLt d l n + cEq d l n)
    rw [cLt_cons d a l n, cEq_cons]
    by_cases h1 : d a < n
    · rw [if_pos h1, if_pos (show d a < n + 1 by omega), if_neg (show ¬ d a = n by omega)]; omega
    · rw [if_neg h1]
      by_cases h2 : d a = n
      · rw [if_pos h2, if_pos (by omega)]; omega
      · rw [if_neg h2, if_neg (by omega)]; omega
theorem cLt_nil (d : Nat → Nat) : ∀ n, cLt d [] n = 0
  | 0 => rfl
  | n + 1 => by
    show cLt d [] n + 0 = 0
    rw [cLt_nil d n]
theorem cLt_all (d : Nat → Nat) (n : Nat) : ∀ (l : List Nat), (∀ x ∈ l, d x < n) → cLt d l n = l.length
  | [], _ => cLt_nil d n
  | a :: l, hd => by
    rw [cLt_cons, if_pos (hd a List.mem_cons_self), cLt_all d n l (fun x hx => hd x (List.mem_cons_of_mem _ hx)), List.length_cons]; omega
theorem csN_mem (d : Nat → Nat) (l : List Nat) (x : Nat) : ∀ n, x ∈ csN d l n ↔ x ∈ l ∧ d x < n
  | 0 => by simp [csN]
  | n + 1 => by
    show x ∈ csN d l n ++ l.filter (fun y => Nat.beq (d y) n) ↔ _
    rw [List.mem_append, csN_mem d l x n, List.mem_filter]
    constructor
    · rintro (⟨h1, h2⟩ | ⟨h1, h2⟩)
      · exact ⟨h1, by omega⟩
      · have := Nat.eq_of_beq_eq_true h2; exact ⟨h1, by omega⟩
    · rintro ⟨h1, h2⟩
      rcases (show d x < n ∨ d x = n by omega) with h | h
      · exact Or.inl ⟨h1, h⟩
      · exact Or.inr ⟨h1, by rw [h]; exact Nat.beq_refl n⟩
theorem csN_pw (d : Nat → Nat) (l : List Nat) (R : Nat → Nat → Prop) (hl : l.Pairwise R) : ∀ n, (csN d l n).Pairwise (fun a b => d a < d b ∨ (d a = d b ∧ R a b))
  | 0 => List.Pairwise.nil
  | n + 1 => by
    refine List.pairwise_append.mpr ⟨csN_pw d l R hl n, ?_, fun a ha b hb => Or.inl ?_⟩
    · have h1 : (l.filter (fun x => Nat.beq (d x) n)).Pairwise R := List.Pairwise.sublist List.filter_sublist hl
      refine List.Pairwise.imp_of_mem (fun {a b} ha hb hr => Or.inr ⟨?_, hr⟩) h1
      rw [Nat.eq_of_beq_eq_true (List.mem_filter.mp ha).2, Nat.eq_of_beq_eq_true (List.mem_filter.mp hb).2]
    · have h1 := ((csN_mem d l a n).mp ha).2
      have h2 := Nat.eq_of_beq_eq_true (List.mem_filter.mp hb).2
      omega
/-- sums over a list don't hang on its order by a byte -/
def sF (F : Nat → Int64) : List Nat → Int64
  | [] => 0
  | x :: l => F x + sF F l
theorem sF_app (F : Nat → Int64) : ∀ (a b : List Nat), sF F (a ++ b) = sF F a + sF F b
  | [], b => by show sF F b = 0 + sF F b; grind
  | x :: a, b => by
    show F x + sF F (a ++ b) = F x + sF F a + sF F b
    rw [sF_app F a b]; grind
theorem sF_cs (F : Nat → Int64) (d : Nat → Nat) (l : List Nat) : ∀ n, sF F (csN d l n) = sF (fun x => if d x < n then F x else 0) l
  | 0 => by
    induction l with
    | nil => rfl
    | cons a l ih =>
      show (0 : Int64) = (if d a < 0 then F a else 0) + sF _ l
      rw [if_neg (Nat.not_lt_zero _), ← ih]; rfl
  | n + 1 => by
    show sF F (csN d l n ++ l.filter (fun x => Nat.beq (d x) n)) = _
    rw [sF_app, sF_cs F d l n]
    induction l with
    | nil => rfl
    | cons a l ih =>
      have e : sF F ((a :: l).filter (fun x => Nat.beq (d x) n)) = (if d a = n then F a else 0) + sF F (l.filter (fun x => Nat.beq (d x) n)) := by
        by_cases h : d a = n
        · rw [List.filter_cons_of_pos (by rw [h]; exact Nat.beq_refl n), if_pos h]; rfl
        · rw [List.filter_cons_of_neg (by intro hh; exact h (Nat.eq_of_beq_eq_true hh)), if_neg h]; grind
      rw [e]
      show (if d a < n then F a else 0) + sF (fun x => if d x < n then F x else 0) l + ((if d a = n then F a else 0) + sF F (l.filter (fun x => Nat.beq (d x) n))) = (if d a < n + 1 then F a else 0) + sF (fun x => if d x < n + 1 then F x else 0) l
      rw [← ih]
      by_cases h1 : d a < n
      · rw [if_pos h1, if_pos (show d a < n + 1 by omega), if_neg (show ¬ d a = n by omega)]; grind
      · rw [if_neg h1]
        by_cases h2 : d a = n
        · rw [if_pos h2, if_pos (by omega)]; grind
        · rw [if_neg h2, if_neg (by omega)]; grind
theorem sF_all (F : Nat → Int64) (d : Nat → Nat) (n : Nat) : ∀ (l : List Nat), (∀ x ∈ l, d x < n) → sF (fun x => if d x < n then F x else 0) l = sF F l
  | [], _ => rfl
  | a :: l, hd => by
    show (if d a < n then F a else 0) + _ = F a + _
    rw [if_pos (hd a List.mem_cons_self), sF_all F d n l (fun x hx => hd x (List.mem_cons_of_mem _ hx))]
/-! the same, in the mixer's rows -/
/-- only two rows have changed -/
def rwM (s t : Nat) (h h' : Zh) : Prop := (zN h' = zN h ∧ zS h' = zS h) ∧ (∀ a, zK h' a = zK h a ∧ zL h' a = zL h a) ∧ (∀ a k, zR h' a k = zR h a k) ∧ (∀ a k, zJ h' a k = zJ h a k) ∧ ∀ a k, a ≠ s → a ≠ t → zI h' a k = zI h a k
theorem rwM.rf (s t : Nat) (h : Zh) : rwM s t h h := ⟨⟨rfl, rfl⟩, fun _ => ⟨rfl, rfl⟩, fun _ _ => rfl, fun _ _ => rfl, fun _ _ _ _ => rfl⟩
theorem rwM.tr {s t : Nat} {h h' h'' : Zh} (p : rwM s t h h') (q : rwM s t h' h'') : rwM s t h h'' := ⟨⟨q.1.1.trans p.1.1, q.1.2.trans p.1.2⟩, fun a => ⟨(q.2.1 a).1.trans (p.2.1 a).1, (q.2.1 a).2.trans (p.2.1 a).2⟩, fun a k => (q.2.2.1 a k).trans (p.2.2.1 a k), fun a k => (q.2.2.2.1 a k).trans (p.2.2.2.1 a k), fun a k h1 h2 => (q.2.2.2.2 a k h1 h2).trans (p.2.2.2.2 a k h1 h2)⟩
theorem rwM.s1 {s t : Nat} (h : Zh) (k : Nat) (v : Int32) : rwM s t h (zsI h s k v) := ⟨⟨rfl, rfl⟩, fun _ => ⟨rfl, rfl⟩, fun _ _ => rfl, fun _ _ => rfl, fun a j h1 _ => by rw [zI_s, if_neg (fun e => h1 e.1)]⟩
theorem rwM.s2 {s t : Nat} (h : Zh) (k : Nat) (v : Int32) : rwM s t h (zsI h t k v) := ⟨⟨rfl, rfl⟩, fun _ => ⟨rfl, rfl⟩, fun _ _ => rfl, fun _ _ => rfl, fun a j _ h1 => by rw [zI_s, if_neg (fun e => h1 e.1)]⟩
theorem fillI_ok {h : Zh} {a m : Nat} (t : Nat) (hl : zL h a = m) (hm : m < 100000) (v : Int32) : ∃ h', gJ7_fill_53178 h (some a) v = some h' ∧ rwM a t h h' ∧ ∀ k, k < m → zI h' a k = v := by
  unfold gJ7_fill_53178
  rw [zob_s, hl, zlt_]
  refine zlp_E (R := Option Zh) (σ := Nat × Zh) (z := fun (_ : Int32) (_ : Zh) => (none : Option (Zh))) (F := gJ7_fill_53178_L1 v a (Int32.ofNat m)) (fun y (F : Int32 → Zh → Option Zh) => F (nI y.1) y.2) (fun y => y.1 ≤ m ∧ rwM a t h y.2 ∧ ∀ k, k < y.1 → zI y.2 a k = v) (fun r => ∃ h', r = some h' ∧ rwM a t h h' ∧ ∀ k, k < m → zI h' a k = v) (fun y => m - y.1) ?_ (0, h) ⟨Nat.zero_le _, rwM.rf a t h, fun k hk => absurd hk (Nat.not_lt_zero k)⟩ zFU (by unfold zFU; show m - 0 < _; omega)
  rintro ⟨i, g⟩ ⟨q1, q2, q3⟩
  have q1 : i ≤ m := q1
  have q3 : ∀ k, k < i → zI g a k = v := q3
  by_cases hi : i < m
  · right
    have hle : ¬ (Int32.ofNat m : Int32) ≤ nI i := zge_n (b := m) hi (by omega)
    have hin : zin (nI i) (zL g a) = true := by rw [(q2.2.1 a).2, hl]; exact zin_nI hi (by omega)
    refine ⟨(i + 1, zsI g a i v), ⟨by show i + 1 ≤ m; omega, q2.tr (rwM.s1 g i v), fun k hk => ?_⟩, by show m - (i + 1) < m - i; omega, fun r => ?_⟩
    · show zI (zsI g a i v) a k = v
      have hk : k < i + 1 := hk
      rw [zI_s]
      by_cases e : k = i
      · rw [if_pos ⟨rfl, e⟩]
      · rw [if_neg (fun hh => e hh.2)]; exact q3 k (by omega)
    · show gJ7_fill_53178_L1 v a (Int32.ofNat m) r (nI i) g = r (nI (i + 1)) (zsI g a i v)
      unfold gJ7_fill_53178_L1
      rw [if_neg hle, hin, zg_1, zx_nI (show i < 2 ^ 31 by omega), zlt_, nI_sc]
  · left
    intro r
    have : i = m := by omega
    subst this
    refine ⟨g, ?_, q2, q3⟩
    show gJ7_fill_53178_L1 v a (Int32.ofNat i) r (nI i) g = _
    unfold gJ7_fill_53178_L1
    rw [if_pos (show (Int32.ofNat i : Int32) ≤ nI i from Int32.le_refl _)]
theorem sort_ok {h : Zh} {s fr to' n bit : Nat} {xs : List Nat} (r3 : zR h s 3 = some (s + 4)) (l4 : zL h (s + 4) = 257) (lf : zL h fr = n) (lt : zL h to' = n) (hn : n ≤ 4096) (hc : xs.length ≤ n) (d1 : fr ≠ s + 4) (d2 : to' ≠ s + 4) (d3 : fr ≠ to') (hb : bit < 32) (hx : ∀ i x, xs[i]? = some x → zI h fr i = nI x ∧ x < 2147483648) : ∃ h', gX3_sortByByte h s (some fr) (some to') (nI xs.length) (nI bit) = some h' ∧ rwM (s + 4) to' h h' ∧ ∀ m x, (csN (fun y => y / 2 ^ bit % 256) xs 256)[m]? = some x → zI h' to' m = nI x := by
  generalize hd : (fun y => y / 2 ^ bit % 256) = d
  have hd' : ∀ y, y / 2 ^ bit % 256 = d y := fun y => by rw [← hd]
  have dlt : ∀ y, d y < 256 := fun y => by rw [← hd']; exact Nat.mod_lt _ (by decide)
  have hdig : ∀ x, x < 2147483648 → (nI x >>> (nI bit &&& 31)) &&& 255 = nI (d x) := fun x hx => by
    rw [nI_shr hx hb, nI_o 255, nI_and, and255, hd']
  obtain ⟨h1, g1, m1, v1⟩ := fillI_ok (h := h) to' l4 (by omega) 0
  unfold gX3_sortByByte
  rw [zlt_, r3, g1, zbV_s, zjn_]
  -- counted
  have hcount : ∃ h2, rwM (s + 4) to' h h2 ∧ (∀ v, v ≤ 256 → zI h2 (s + 4) v = nI (if v = 0 then 0 else cEq d xs (v - 1))) ∧ ∀ K : Zh → Option Zh, zlp (fun (_ : Int32) (_ : Zh) => (none : Option (Zh))) (gX3_sortByByte_L5 s (some fr) (nI xs.length) (nI bit) K) zFU 0 h1 = K h2 := by
    have hgo : ∀ (j i : Nat) (g : Zh), i + j = xs.length → rwM (s + 4) to' h g → (∀ v, v ≤ 256 → zI g (s + 4) v = nI (if v = 0 then 0 else cEq d (xs.take i) (v - 1))) → ∃ h2, rwM (s + 4) to' h h2 ∧ (∀ v, v ≤ 256 → zI h2 (s + 4) v = nI (if v = 0 then 0 else cEq d xs (v - 1))) ∧ ∀ (K : Zh → Option Zh) (fu : Nat), j < fu → zlp (fun (_ : Int32) (_ : Zh) => (none : Option (Zh))) (gX3_sortByByte_L5 s (some fr) (nI xs.length) (nI bit) K) fu (nI i) g = K h2 := by
      intro j
      induction j with
      | zero =>
        intro i g hij m q
        have hi : i = xs.length := by omega
        subst hi
        rw [List.take_length] at q
        refine ⟨g, m, q, fun K fu hfu => ?_⟩
        obtain ⟨fu, rfl⟩ : ∃ f, fu = f + 1 := ⟨fu - 1, by omega⟩
        show gX3_sortByByte_L5 s (some fr) (nI xs.length) (nI bit) K _ (nI xs.length) g = K g
        unfold gX3_sortByByte_L5
        rw [if_pos (Int32.le_refl _)]
      | succ j ih =>
        intro i g hij m q
        obtain ⟨x, hxi⟩ := get_some (l := xs) (i := i) (by omega)
        obtain ⟨x1, x2⟩ := hx i x hxi
        have hle : ¬ nI xs.length ≤ nI i := zge_n (by omega) (by omega)
        have dx := dlt x
        have gr : zR g s 3 = some (s + 4) := (m.2.2.1 s 3).trans r3
        have gf : zin (nI i) (zL g fr) = true := by rw [(m.2.1 fr).2, lf]; exact zin_nI (by omega) (by omega)
        have gv : zI g fr i = nI x := (m.2.2.2.2 fr i d1 d3).trans x1
        have g4 : zin (nI (d x + 1)) (zL g (s + 4)) = true := by rw [(m.2.1 (s + 4)).2, l4]; exact zin_nI (by omega) (by omega)
        have gq : zI g (s + 4) (d x + 1) = nI (cEq d (xs.take i) (d x)) := by rw [q (d x + 1) (by omega), if_neg (by omega), Nat.add_sub_cancel]
        obtain ⟨h2, a1, a2, a3⟩ := ih (i + 1) (zsI g (s + 4) (d x + 1) (nI (cEq d (xs.take i) (d x) + 1))) (by omega) (m.tr (rwM.s1 g _ _)) (fun v hv => by
          rw [zI_s, cEq_take hxi]
          by_cases e : v = d x + 1
          · rw [if_pos ⟨rfl, e⟩, if_neg (by omega), if_pos (by omega), e, Nat.add_sub_cancel]
          · rw [if_neg (fun hh => e hh.2), q v hv]
            by_cases e0 : v = 0
            · rw [if_pos e0, if_pos e0]
            · rw [if_neg e0, if_neg e0, if_neg (by omega), Nat.add_zero])
        refine ⟨h2, a1, a2, fun K fu hfu => ?_⟩
        obtain ⟨fu, rfl⟩ : ∃ f, fu = f + 1 := ⟨fu - 1, by omega⟩
        rw [← a3 K fu (by omega)]
        show gX3_sortByByte_L5 s (some fr) (nI xs.length) (nI bit) K _ (nI i) g = _
        unfold gX3_sortByByte_L5
        rw [if_neg hle]
        repeat (first | rw [gr] | rw [gf] | rw [zx_nI (show i < 2 ^ 31 by omega)] | rw [gv] | rw [hdig x x2] | rw [← nI_sc] | rw [g4] | rw [zx_nI (show d x + 1 < 2 ^ 31 by omega)] | rw [gq] | rw [zlt_] | rw [zjn_] | rw [zob_s] | rw [zg_1] | rw [zbi_s] | rw [zbI_s] | rw [zbr_s] | rw [zbR_s] | rw [zbV_s] | rw [zbj_s] | rw [zbJ_s] | rw [zcs_s] | rw [zcs_n])
    obtain ⟨h2, a1, a2, a3⟩ := hgo xs.length 0 h1 (by omega) m1 (fun v hv => by
      rw [v1 v (by omega), List.take_zero]
      by_cases e0 : v = 0
      · rw [if_pos e0]; rfl
      · rw [if_neg e0]; rfl)
    exact ⟨h2, a1, a2, fun K => a3 K zFU (by unfold zFU; omega)⟩
  obtain ⟨h2, m2, q2, k2⟩ := hcount
  rw [k2]
  unfold gX3_sortByByte_J4
  rw [zjn_]
  -- summed
  have hsum : ∃ h3, rwM (s + 4) to' h h3 ∧ (∀ v, v ≤ 256 → zI h3 (s + 4) v = nI (cLt d xs v)) ∧ ∀ K : Zh → Option Zh, zlp (fun (_ : Int32) (_ : Zh) => (none : Option (Zh))) (gX3_sortByByte_L3 s K) zFU 0 h2 = K h3 := by
    have hgo : ∀ (j u : Nat) (g : Zh), u + j = 256 → rwM (s + 4) to' h g → (∀ v, v ≤ 256 → zI g (s + 4) v = nI (if v ≤ u then cLt d xs v else cEq d xs (v - 1))) → ∃ h3, rwM (s + 4) to' h h3 ∧ (∀ v, v ≤ 256 → zI h3 (s + 4) v = nI (cLt d xs v)) ∧ ∀ (K : Zh → Option Zh) (fu : Nat), j < fu → zlp (fun (_ : Int32) (_ : Zh) => (none : Option (Zh))) (gX3_sortByByte_L3 s K) fu (nI u) g = K h3 := by
      intro j
      induction j with
      | zero =>
        intro u g hu m q
        have hu : u = 256 := by omega
        subst hu
        refine ⟨g, m, fun v hv => by rw [q v hv, if_pos hv], fun K fu hfu => ?_⟩
        obtain ⟨fu, rfl⟩ : ∃ f, fu = f + 1 := ⟨fu - 1, by omega⟩
        show gX3_sortByByte_L3 s K _ (nI 256) g = K g
        unfold gX3_sortByByte_L3
        rw [if_pos (show (256 : Int32) ≤ nI 256 from Int32.le_refl _)]
      | succ j ih =>
        intro u g hu m q
        have hle : ¬ (256 : Int32) ≤ nI u := zge_n (b := 256) (by omega) (by decide)
        have gr : zR g s 3 = some (s + 4) := (m.2.2.1 s 3).trans r3
        have g4 : zin (nI (u + 1)) (zL g (s + 4)) = true := by rw [(m.2.1 (s + 4)).2, l4]; exact zin_nI (by omega) (by omega)
        have g5 : zin (nI u) (zL g (s + 4)) = true := by rw [(m.2.1 (s + 4)).2, l4]; exact zin_nI (by omega) (by omega)
        have w1 : zI g (s + 4) (u + 1) = nI (cEq d xs u) := by rw [q (u + 1) (by omega), if_neg (by omega), Nat.add_sub_cancel]
        have w2 : zI g (s + 4) u = nI (cLt d xs u) := by rw [q u (by omega), if_pos (Nat.le_refl _)]
        have e1 : nI (cEq d xs u) + nI (cLt d xs u) = nI (cLt d xs (u + 1)) := by rw [nI_add, Nat.add_comm]; rfl
        obtain ⟨h3, a1, a2, a3⟩ := ih (u + 1) (zsI g (s + 4) (u + 1) (nI (cLt d xs (u + 1)))) (by omega) (m.tr (rwM.s1 g _ _)) (fun v hv => by
          rw [zI_s]
          by_cases e : v = u + 1
          · rw [if_pos ⟨rfl, e⟩, if_pos (by omega), e]
          · rw [if_neg (fun hh => e hh.2), q v hv]
            by_cases e0 : v ≤ u
            · rw [if_pos e0, if_pos (by omega)]
            · rw [if_neg e0, if_neg (by omega)])
        refine ⟨h3, a1, a2, fun K fu hfu => ?_⟩
        obtain ⟨fu, rfl⟩ : ∃ f, fu = f + 1 := ⟨fu - 1, by omega⟩
        rw [← a3 K fu (by omega)]
        show gX3_sortByByte_L3 s K _ (nI u) g = _
        unfold gX3_sortByByte_L3
        rw [if_neg hle]
        repeat (first | rw [gr] | rw [← nI_sc] | rw [g4] | rw [g5] | rw [zx_nI (show u < 2 ^ 31 by omega)] | rw [zx_nI (show u + 1 < 2 ^ 31 by omega)] | rw [w1] | rw [w2] | rw [e1] | rw [zlt_] | rw [zjn_] | rw [zob_s] | rw [zg_1] | rw [zbi_s] | rw [zbI_s] | rw [zbr_s] | rw [zbR_s] | rw [zbV_s] | rw [zbj_s] | rw [zbJ_s] | rw [zcs_s] | rw [zcs_n])
    obtain ⟨h3, a1, a2, a3⟩ := hgo 256 0 h2 (by omega) m2 (fun v hv => by
      rw [q2 v hv]
      by_cases e0 : v = 0
      · rw [if_pos e0, if_pos (by omega), e0]; rfl
      · rw [if_neg e0, if_neg (by omega)])
    exact ⟨h3, a1, a2, fun K => a3 K zFU (by unfold zFU; omega)⟩
  obtain ⟨h3, m3, q3, k3⟩ := hsum
  rw [k3]
  unfold gX3_sortByByte_J2
  -- laid
  have hall : cLt d xs 256 = xs.length := cLt_all d 256 xs (fun x _ => dlt x)
  have hgo : ∀ (j i : Nat) (g : Zh), i + j = xs.length → rwM (s + 4) to' h g → (∀ v, v < 256 → zI g (s + 4) v = nI (cLt d xs v + cEq d (xs.take i) v)) → (∀ v e y, v < 256 → e < cEq d (xs.take i) v → (xs.filter (fun x => Nat.beq (d x) v))[e]? = some y → zI g to' (cLt d xs v + e) = nI y) → ∀ fu, j < fu → ∃ h', zlp (fun (_ : Int32) (_ : Zh) => (none : Option (Zh))) (gX3_sortByByte_L1 s (some fr) (some to') (nI xs.length) (nI bit)) fu (nI i) g = some h' ∧ rwM (s + 4) to' h h' ∧ (∀ v e y, v < 256 → e < cEq d xs v → (xs.filter (fun x => Nat.beq (d x) v))[e]? = some y → zI h' to' (cLt d xs v + e) = nI y) := by
    intro j
    induction j with
    | zero =>
      intro i g hij m q w fu hfu
      have hi : i = xs.length := by omega
      subst hi
      rw [List.take_length] at w
      obtain ⟨fu, rfl⟩ : ∃ f, fu = f + 1 := ⟨fu - 1, by omega⟩
      refine ⟨g, ?_, m, w⟩
      show gX3_sortByByte_L1 s (some fr) (some to') (nI xs.length) (nI bit) _ (nI xs.length) g = some g
      unfold gX3_sortByByte_L1
      rw [if_pos (Int32.le_refl _)]
    | succ j ih =>
      intro i g hij m q w fu hfu
      obtain ⟨fu, rfl⟩ : ∃ f, fu = f + 1 := ⟨fu - 1, by omega⟩
      obtain ⟨x, hxi⟩ := get_some (l := xs) (i := i) (by omega)
      obtain ⟨x1, x2⟩ := hx i x hxi
      obtain ⟨f1, f2⟩ := filt_at (d := d) hxi
      have dx := dlt x
      have hpos : cLt d xs (d x) + cEq d (xs.take i) (d x) < xs.length := by
        have := cLt_mono d xs 256 (d x) dx
        omega
      have hle : ¬ nI xs.length ≤ nI i := zge_n (by omega) (by omega)
      have gr : zR g s 3 = some (s + 4) := (m.2.2.1 s 3).trans r3
      have gf : zin (nI i) (zL g fr) = true := by rw [(m.2.1 fr).2, lf]; exact zin_nI (by omega) (by omega)
      have gv : zI g fr i = nI x := (m.2.2.2.2 fr i d1 d3).trans x1
      have g4 : zin (nI (d x)) (zL g (s + 4)) = true := by rw [(m.2.1 (s + 4)).2, l4]; exact zin_nI (by omega) (by omega)
      have gq := q (d x) dx
      have gt : zin (nI (cLt d xs (d x) + cEq d (xs.take i) (d x))) (zL g to') = true := by rw [(m.2.1 to').2, lt]; exact zin_nI (by omega) (by omega)
      have gq2 : zI (zsI g to' (cLt d xs (d x) + cEq d (xs.take i) (d x)) (nI x)) (s + 4) (d x) = nI (cLt d xs (d x) + cEq d (xs.take i) (d x)) := by rw [zI_s, if_neg (fun e => d2 e.1.symm)]; exact gq
      have := ih (i + 1) (zsI (zsI g to' (cLt d xs (d x) + cEq d (xs.take i) (d x)) (nI x)) (s + 4) (d x) (nI (cLt d xs (d x) + cEq d (xs.take i) (d x) + 1))) (by omega) ((m.tr (rwM.s2 g _ _)).tr (rwM.s1 _ _ _)) (fun v hv => by
        rw [zI_s, cEq_take hxi]
        by_cases e : v = d x
        · rw [if_pos ⟨rfl, e⟩, if_pos e.symm, e]; rfl
        · rw [if_neg (fun hh => e hh.2), if_neg (fun hh => e hh.symm), zI_s, if_neg (fun hh => d2 hh.1.symm), q v hv]; rfl) (fun v e y hv he hy => by
        rw [zI_s, if_neg (fun hh => d2 hh.1), zI_s]
        rw [cEq_take hxi] at he
        by_cases e1 : d x = v ∧ e = cEq d (xs.take i) v
        · obtain ⟨e1, e2⟩ := e1
          subst e1
          rw [if_pos ⟨rfl, by rw [e2]⟩]
          rw [e2, f1] at hy
          rw [Option.some.inj hy]
        · have he' : e < cEq d (xs.take i) v := by
            by_cases e3 : d x = v
            · rw [if_pos e3] at he
              have : e ≠ cEq d (xs.take i) v := fun h => e1 ⟨e3, h⟩
              omega
            · rw [if_neg e3] at he; omega
          rw [if_neg (fun hh => ?_)]
          · exact w v e y hv he' hy
          · have hle : cEq d (xs.take i) v ≤ cEq d xs v := List.Sublist.length_le (List.Sublist.filter _ (List.take_sublist i xs))
            have h2 := hh.2
            by_cases e3 : d x = v
            · subst e3; omega
            · rcases Nat.lt_or_gt_of_ne e3 with e3 | e3
              · have := cLt_mono d xs v (d x) e3
                omega
              · have := cLt_mono d xs (d x) v e3
                omega) fu (by omega)
      obtain ⟨h', a1, a2, a3⟩ := this
      refine ⟨h', ?_, a2, a3⟩
      rw [← a1]
      show gX3_sortByByte_L1 s (some fr) (some to') (nI xs.length) (nI bit) _ (nI i) g = _
      unfold gX3_sortByByte_L1
      rw [if_neg hle]
      repeat (first | rw [gf] | rw [zx_nI (show i < 2 ^ 31 by omega)] | rw [gv] | rw [hdig x x2] | rw [gr] | rw [g4] | rw [zx_nI (show d x < 2 ^ 31 by omega)] | rw [gq] | rw [gt] | rw [zx_nI (show cLt d xs (d x) + cEq d (xs.take i) (d x) < 2 ^ 31 by omega)] | rw [zR_sI] | rw [zL_sI] | rw [gq2] | rw [← nI_sc] | rw [zlt_] | rw [zjn_] | rw [zob_s] | rw [zg_1] | rw [zbi_s] | rw [zbI_s] | rw [zbr_s] | rw [zbR_s] | rw [zbV_s] | rw [zbj_s] | rw [zbJ_s] | rw [zcs_s] | rw [zcs_n])
  obtain ⟨h', a1, a2, a3⟩ := hgo xs.length 0 h3 (by omega) m3 (fun v hv => by rw [q3 v (by omega), List.take_zero]; rfl) (fun v e y hv he hy => by rw [List.take_zero] at he; cases he) zFU (by unfold zFU; omega)
  refine ⟨h', a1, a2, fun m x hm => ?_⟩
  have hml := (List.getElem?_eq_some_iff.mp hm).1
  rw [csN_len] at hml
  obtain ⟨v, e, hv, he, rfl⟩ := cLt_find d xs 256 m hml
  rw [csN_at d xs v e he 256 hv] at hm
  exact a3 v e x hv he hm
