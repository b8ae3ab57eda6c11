/-! lists of codes that the kernel can multiply, and what they stand for -/
theorem jN_add (a b : Nat) : jN (a + b) = jN a + jN b := Int64.ofNat_add a b
theorem jN_mul (a b : Nat) : jN (a * b) = jN a * jN b := Int64.ofNat_mul a b
theorem jN_M : jN 18446744073709551616 = 0 := by decide
theorem jN_mod (a : Nat) : jN (Nat.mod a 18446744073709551616) = jN a := by
  have h := Nat.div_add_mod a 18446744073709551616
  have h2 := congrArg jN h
  rw [jN_add, jN_mul, jN_M] at h2
  rw [← h2]
  show jN (a % 18446744073709551616) = 0 * _ + jN (a % 18446744073709551616)
  grind
theorem jN_0 : jN 0 = 0 := rfl
theorem jN_neg {x : Nat} (hx : x ≤ 18446744073709551616) : jN (18446744073709551616 - x) = -jN x := by
  have h := Nat.sub_add_cancel hx
  have h2 := congrArg jN h
  rw [jN_add, jN_M] at h2
  grind
theorem jN_int (c : Nat) : (jN c).toInt = (c : Int).bmod 18446744073709551616 := Int64.toInt_ofNat
/-- the forced ones -/
noncomputable def fcL {α : Type} (l : List Nat) : (List Nat → α) → α := List.rec (motive := fun _ => (List Nat → α) → α) (fun K => K []) (fun a _ ih K => syf a (fun v => ih (fun l => K (v :: l)))) l
theorem fcL_eq {α : Type} : ∀ (l : List Nat) (K : List Nat → α), fcL l K = K l
  | [], _ => rfl
  | a :: l, K => by
    show syf a (fun v => fcL l (fun l => K (v :: l))) = _
    rw [syf_eq, fcL_eq l]
noncomputable def fcM {α : Type} (l : List (List Nat)) : (List (List Nat) → α) → α := List.rec (motive := fun _ => (List (List Nat) → α) → α) (fun K => K []) (fun a _ ih K => fcL a (fun v => ih (fun l => K (v :: l)))) l
theorem fcM_eq {α : Type} : ∀ (l : List (List Nat)) (K : List (List Nat) → α), fcM l K = K l
  | [], _ => rfl
  | a :: l, K => by
    show fcL a (fun v => fcM l (fun l => K (v :: l))) = _
    rw [fcL_eq, fcM_eq l]
noncomputable def dotC (as : List Nat) : List Nat → Nat → Nat := List.rec (motive := fun _ => List Nat → Nat → Nat) (fun _ s => s) (fun a _ ih bs => List.rec (motive := fun _ => Nat → Nat) (fun s => s) (fun b bs' _ s => ih bs' (Nat.add s (Nat.mul a b))) bs) as
noncomputable def dotM (as bs : List Nat) : Nat := Nat.mod (dotC as bs 0) 18446744073709551616
/-- a list that stands for the first n values of f -/
def rd (l : List Nat) (n : Nat) (f : Nat → Int64) : Prop := l.length = n ∧ ∀ i, i < n → jN (l.getD i 0) = f i
theorem rd_cons {a : Nat} {l : List Nat} {n : Nat} {f : Nat → Int64} : rd (a :: l) (n + 1) f ↔ jN a = f 0 ∧ rd l n (fun i => f (i + 1)) := by
  refine ⟨fun h => ⟨h.2 0 (by omega), Nat.succ.inj h.1, fun i hi => h.2 (i + 1) (by omega)⟩, fun h => ⟨congrArg Nat.succ h.2.1, fun i hi => ?_⟩⟩
  cases i with
  | zero => exact h.1
  | succ i => exact h.2.2 i (by omega)
theorem rd_cg {l : List Nat} {n : Nat} {f g : Nat → Int64} (h : rd l n f) (e : ∀ i, i < n → f i = g i) : rd l n g := ⟨h.1, fun i hi => (h.2 i hi).trans (e i hi)⟩
theorem sF_front (F : Nat → Int64) (m : Nat) : sF F (List.range (m + 1)) = F 0 + sF (fun i => F (i + 1)) (List.range m) := by
  rw [List.range_succ_eq_map]
  show F 0 + sF F ((List.range m).map Nat.succ) = _
  rw [sF_map]
theorem dotC_ok : ∀ (as bs : List Nat) (s a b : Nat) (f g : Nat → Int64), rd as a f → rd bs b g → jN (dotC as bs s) = jN s + sF (fun j => f j * g j) (List.range (min a b))
  | [], bs, s, a, b, f, g, ha, _ => by
    have : a = 0 := ha.1.symm
    subst this
    rw [Nat.zero_min]
    show jN s = jN s + 0
    grind
  | x :: as, [], s, a, b, f, g, _, hb => by
    have : b = 0 := hb.1.symm
    subst this
    rw [Nat.min_zero]
    show jN s = jN s + 0
    grind
  | x :: as, y :: bs, s, a, b, f, g, ha, hb => by
    obtain ⟨a, rfl⟩ : ∃ k, a = k + 1 := ⟨as.length, ha.1.symm⟩
    obtain ⟨b, rfl⟩ : ∃ k, b = k + 1 := ⟨bs.length, hb.1.symm⟩
    obtain ⟨h1, h2⟩ := rd_cons.mp ha
    obtain ⟨h3, h4⟩ := rd_cons.mp hb
    show jN (dotC as bs (s + x * y)) = _
    rw [dotC_ok as bs _ a b _ _ h2 h4, show min (a + 1) (b + 1) = min a b + 1 by omega, sF_front]
    rw [jN_add, jN_mul, h1, h3]
    grind
theorem dotM_ok {as bs : List Nat} {a b : Nat} {f g : Nat → Int64} (ha : rd as a f) (hb : rd bs b g) : jN (dotM as bs) = sF (fun j => f j * g j) (List.range (min a b)) := by
  unfold dotM
  rw [jN_mod, dotC_ok as bs 0 a b f g ha hb, jN_0]
  grind
theorem getD_map {α β : Type} (F : α → β) (l : List α) (i : Nat) (d : α) (d' : β) (hi : i < l.length) : (l.map F).getD i d' = F (l.getD i d) := by
  rw [List.getD_eq_getElem?_getD, List.getD_eq_getElem?_getD, List.getElem?_map, List.getElem?_eq_getElem hi]
  rfl
theorem getD_range (n i : Nat) (hi : i < n) : (List.range n).getD i 0 = i := by
  rw [List.getD_eq_getElem?_getD, List.getElem?_eq_getElem (by simpa using hi)]
  simp
theorem getD_rmap {β : Type} (F : Nat → β) (n i : Nat) (d' : β) (hi : i < n) : ((List.range n).map F).getD i d' = F i := by
  rw [getD_map F _ i 0 d' (by simpa using hi), getD_range n i hi]
theorem rd_range {n : Nat} {F : Nat → Nat} {f : Nat → Int64} (h : ∀ i, i < n → jN (F i) = f i) : rd ((List.range n).map F) n f := ⟨by simp, fun i hi => by rw [getD_rmap F n i 0 hi]; exact h i hi⟩
theorem rd_take {l : List Nat} {n r : Nat} {f : Nat → Int64} (h : rd l n f) (hr : r ≤ n) : rd (l.take r) r f := by
  refine ⟨by rw [List.length_take, h.1]; omega, fun i hi => ?_⟩
  rw [← h.2 i (by omega), List.getD_eq_getElem?_getD, List.getD_eq_getElem?_getD, List.getElem?_take, if_pos hi]
theorem rd_rev {l : List Nat} {k : Nat} {f : Nat → Int64} (h : rd l (k + 1) f) : rd l.reverse (k + 1) (fun j => f (k - j)) := by
  refine ⟨by rw [List.length_reverse, h.1], fun i hi => ?_⟩
  show jN (l.reverse.getD i 0) = f (k - i)
  rw [← h.2 (k - i) (by omega), List.getD_eq_getElem?_getD, List.getD_eq_getElem?_getD, List.getElem?_reverse (by rw [h.1]; omega), h.1]
  rfl
/-- rows of a table, or columns -/
def rdM (R : List (List Nat)) (n m : Nat) (T : Nat → Nat → Int64) : Prop := R.length = n ∧ ∀ i, i < n → rd (R.getD i []) m (T i)
noncomputable def mulC (R : List (List Nat)) (v : List Nat) : List Nat := R.map (fun r => dotM r v)
theorem mulC_ok {R : List (List Nat)} {n m : Nat} {T : Nat → Nat → Int64} (hR : rdM R n m T) {v : List Nat} {f : Nat → Int64} (hv : rd v m f) : rd (mulC R v) n (fun i => sF (fun j => T i j * f j) (List.range m)) := by
  refine ⟨by unfold mulC; rw [List.length_map, hR.1], fun i hi => ?_⟩
  unfold mulC
  rw [getD_map _ R i [] 0 (by rw [hR.1]; exact hi), dotM_ok (hR.2 i hi) hv, Nat.min_self]
noncomputable def mcK {α : Type} (R : List (List Nat)) (v : List Nat) : (List Nat → α) → α := List.rec (motive := fun _ => (List Nat → α) → α) (fun K => K []) (fun r _ ih K => syf (dotM r v) (fun x => ih (fun l => K (x :: l)))) R
theorem mcK_eq {α : Type} (v : List Nat) : ∀ (R : List (List Nat)) (K : List Nat → α), mcK R v K = K (mulC R v)
  | [], _ => rfl
  | r :: R, K => by
    show syf (dotM r v) (fun x => mcK R v (fun l => K (x :: l))) = _
    rw [syf_eq, mcK_eq v R]; rfl
theorem rdM_map {R : List (List Nat)} {n m m' : Nat} {T T' : Nat → Nat → Int64} (hR : rdM R n m T) (F : List Nat → List Nat) (hF : ∀ i, i < n → rd (F (R.getD i [])) m' (T' i)) : rdM (R.map F) n m' T' := by
  refine ⟨by rw [List.length_map, hR.1], fun i hi => ?_⟩
  rw [getD_map F R i [] [] (by rw [hR.1]; exact hi)]
  exact hF i hi
theorem rdM_take {R : List (List Nat)} {n m r : Nat} {T : Nat → Nat → Int64} (hR : rdM R n m T) (hr : r ≤ n) : rdM (R.take r) r m T := by
  refine ⟨by rw [List.length_take, hR.1]; omega, fun i hi => ?_⟩
  have := hR.2 i (by omega)
  rwa [List.getD_eq_getElem?_getD, List.getElem?_take, if_pos hi, ← List.getD_eq_getElem?_getD]
theorem rdM_range {n m : Nat} {F : Nat → List Nat} {T : Nat → Nat → Int64} (h : ∀ i, i < n → rd (F i) m (T i)) : rdM ((List.range n).map F) n m T := ⟨by simp, fun i hi => by rw [getD_rmap F n i [] hi]; exact h i hi⟩
noncomputable def ngC (x : Nat) : Nat := Nat.sub 18446744073709551616 (Nat.mod x 18446744073709551616)
theorem ngC_ok (x : Nat) : jN (ngC x) = -jN x := by
  unfold ngC
  exact (jN_neg (Nat.le_of_lt (Nat.mod_lt x (by decide)))).trans (congrArg (fun y => -y) (jN_mod x))
/-- Berkowitz' way over lists -/
noncomputable def bvL (R : List (List Nat)) (row : List Nat) (k : Nat) : List Nat → List Nat := Nat.rec (motive := fun _ => List Nat → List Nat) (fun _ => []) (fun _ ih v => ngC (dotM row v) :: mcK R v (fun v' => ih v')) k
theorem bvL_ok {R : List (List Nat)} {row : List Nat} {r : Nat} {T : Nat → Nat → Int64} (hR : rdM R r r T) (hrow : rd row r (T r)) : ∀ (k t : Nat) (v : List Nat), rd v r (bkv T r t) → rd (bvL R row k v) k (fun i => bkS T r (t + i + 2))
  | 0, t, v, _ => ⟨rfl, fun i hi => by omega⟩
  | k + 1, t, v, hv => by
    show rd (ngC (dotM row v) :: mcK R v (fun v' => bvL R row k v')) (k + 1) _
    rw [mcK_eq, rd_cons]
    refine ⟨?_, ?_⟩
    · rw [ngC_ok, dotM_ok hrow hv, Nat.min_self]; rfl
    · have h1 := bvL_ok hR hrow k (t + 1) (mulC R v) (mulC_ok hR hv)
      exact rd_cg h1 (fun i _ => congrArg (bkS T r) (by omega))
noncomputable def bkN {α : Type} (T : List (List Nat)) (r : Nat) (p : List Nat) (K : List Nat → α) : α := fcM ((T.take r).map (fun x => x.take r)) (fun R => fcL ((T.getD r []).take r) (fun row => fcL (1 :: ngC ((T.getD r []).getD r 0) :: bvL R row r ((T.take r).map (fun x => x.getD r 0))) (fun S => fcL ((List.range (Nat.add r 2)).map (fun k => dotM ((S.take (Nat.succ k)).reverse) p)) K)))
theorem bkN_ok {α : Type} {L : List (List Nat)} {n r : Nat} {T : Nat → Nat → Int64} (hL : rdM L n n T) (hr : r < n) {p : List Nat} (hp : rd p (r + 1) (bkP T r)) (K : List Nat → α) : ∃ p', bkN L r p K = K p' ∧ rd p' (r + 2) (bkP T (r + 1)) := by
  unfold bkN
  rw [fcM_eq, fcL_eq, fcL_eq, fcL_eq]
  refine ⟨_, rfl, rd_range (fun k hk => ?_)⟩
  have hk : k < r + 2 := hk
  have hR : rdM ((L.take r).map (fun x => x.take r)) r r T := rdM_map (rdM_take hL (by omega)) _ (fun i hi => by
    have h1 := (rdM_take hL (show r ≤ n by omega)).2 i hi
    exact rd_take h1 (by omega))
  have hrow : rd ((L.getD r []).take r) r (T r) := rd_take (hL.2 r hr) (by omega)
  have hv : rd ((L.take r).map (fun x => x.getD r 0)) r (bkv T r 0) := by
    have h1 := rdM_take hL (show r ≤ n by omega)
    refine ⟨by rw [List.length_map, h1.1], fun i hi => ?_⟩
    rw [getD_map _ _ i [] 0 (by rw [h1.1]; exact hi), (h1.2 i hi).2 r hr]; rfl
  have hS : rd (1 :: ngC ((L.getD r []).getD r 0) :: bvL ((L.take r).map (fun x => x.take r)) ((L.getD r []).take r) r ((L.take r).map (fun x => x.getD r 0))) (r + 1 + 1) (bkS T r) := by
    rw [rd_cons, rd_cons]
    refine ⟨rfl, ?_, ?_⟩
    · rw [ngC_ok, (hL.2 r hr).2 r hr]; rfl
    · exact rd_cg (bvL_ok hR hrow r 0 _ hv) (fun i _ => congrArg (bkS T r) (by omega))
  have h1 := dotM_ok (rd_rev (rd_take hS (show k + 1 ≤ r + 1 + 1 by omega))) hp
  rw [show min (k + 1) (r + 1) = min k r + 1 by omega] at h1
  refine Eq.trans h1 ?_
  exact (if_pos (by omega)).symm
noncomputable def bkI {α : Type} (T : List (List Nat)) (n : Nat) : (List Nat → α) → α := Nat.rec (motive := fun _ => (List Nat → α) → α) (fun K => K [1]) (fun r ih K => ih (fun p => bkN T r p K)) n
theorem bkI_ok {α : Type} {L : List (List Nat)} {n : Nat} {T : Nat → Nat → Int64} (hL : rdM L n n T) : ∀ (r : Nat), r ≤ n → ∀ K : List Nat → α, ∃ p, bkI L r K = K p ∧ rd p (r + 1) (bkP T r)
  | 0, _, K => ⟨[1], rfl, rfl, fun i hi => by
      have : i = 0 := by omega
      subst this; rfl⟩
  | r + 1, hr, K => by
    obtain ⟨p, h1, h2⟩ := bkI_ok hL r (by omega) (fun p => bkN L r p K)
    obtain ⟨p', h3, h4⟩ := bkN_ok hL (show r < n by omega) h2 K
    exact ⟨p', h1.trans h3, h4⟩
/-- columns of a product, its trace, a number added on the diagonal -/
noncomputable def gtL (l : List Nat) : Nat → Nat := List.rec (motive := fun _ => Nat → Nat) (fun _ => 0) (fun a _ ih j => syc (Nat.beq j 0) a (ih (Nat.pred j))) l
theorem gtL_eq : ∀ (l : List Nat) (j : Nat), gtL l j = l.getD j 0
  | [], j => rfl
  | a :: l, 0 => rfl
  | a :: l, j + 1 => gtL_eq l j
noncomputable def trC (C : List (List Nat)) : Nat → Nat → Nat := List.rec (motive := fun _ => Nat → Nat → Nat) (fun _ s => s) (fun v _ ih j s => ih (Nat.succ j) (Nat.add s (gtL v j))) C
theorem trC_s : ∀ (C : List (List Nat)) (j s : Nat), jN (trC C j s) = jN s + sF (fun i => jN ((C.getD i []).getD (j + i) 0)) (List.range C.length)
  | [], j, s => by show jN s = jN s + 0; grind
  | v :: C, j, s => by
    show jN (trC C (j + 1) (s + gtL v j)) = jN s + sF _ (List.range (C.length + 1))
    rw [trC_s C, sF_front, jN_add, gtL_eq]
    have e : sF (fun i => jN ((C.getD i []).getD (j + 1 + i) 0)) (List.range C.length) = sF (fun i => jN (((v :: C).getD (i + 1) []).getD (j + (i + 1)) 0)) (List.range C.length) := sF_cg _ (fun i _ => by
      rw [show j + 1 + i = j + (i + 1) by omega]; rfl)
    rw [e]
    show jN s + jN (v.getD j 0) + _ = jN s + (jN (v.getD (j + 0) 0) + _)
    rw [Nat.add_zero]; grind
theorem trC_ok {C : List (List Nat)} {n : Nat} {A : Nat → Nat → Int64} (hC : rdM C n n (fun j i => A i j)) : jN (trC C 0 0) = sF (fun i => A i i) (List.range n) := by
  rw [trC_s, hC.1, jN_0, sF_cg (G := fun i => A i i) _ (fun i hi => by
    have hi := List.mem_range.mp hi
    show jN ((C.getD i []).getD (0 + i) 0) = _
    rw [Nat.zero_add]
    exact (hC.2 i hi).2 i hi)]
  grind
noncomputable def adC (c : Nat) (l : List Nat) : Nat → List Nat := List.rec (motive := fun _ => Nat → List Nat) (fun _ => []) (fun a l ih j => syc (Nat.beq j 0) (Nat.add a c :: l) (a :: ih (Nat.pred j))) l
theorem adC_ok (c : Nat) : ∀ (l : List Nat) (j : Nat), (adC c l j).length = l.length ∧ ∀ i, i < l.length → (adC c l j).getD i 0 = l.getD i 0 + (if i = j then c else 0)
  | [], j => ⟨rfl, fun i hi => absurd hi (Nat.not_lt_zero i)⟩
  | a :: l, 0 => ⟨rfl, fun i hi => by
      cases i with
      | zero => rfl
      | succ i => rw [if_neg (by omega)]; rfl⟩
  | a :: l, j + 1 => by
    obtain ⟨h1, h2⟩ := adC_ok c l j
    refine ⟨congrArg Nat.succ h1, fun i hi => ?_⟩
    cases i with
    | zero => rw [if_neg (by omega)]; rfl
    | succ i =>
      show (adC c l j).getD i 0 = l.getD i 0 + _
      rw [h2 i (Nat.lt_of_succ_lt_succ hi)]
      by_cases h3 : i = j
      · rw [if_pos h3, if_pos (by omega)]
      · rw [if_neg h3, if_neg (by omega)]
noncomputable def adD (c : Nat) (C : List (List Nat)) : Nat → List (List Nat) := List.rec (motive := fun _ => Nat → List (List Nat)) (fun _ => []) (fun v _ ih j => adC c v j :: ih (Nat.succ j)) C
theorem adD_s (c : Nat) : ∀ (C : List (List Nat)) (j : Nat), (adD c C j).length = C.length ∧ ∀ i, i < C.length → (adD c C j).getD i [] = adC c (C.getD i []) (j + i)
  | [], j => ⟨rfl, fun i hi => absurd hi (Nat.not_lt_zero i)⟩
  | v :: C, j => by
    obtain ⟨h1, h2⟩ := adD_s c C (j + 1)
    refine ⟨congrArg Nat.succ h1, fun i hi => ?_⟩
    cases i with
    | zero => rfl
    | succ i =>
      show (adD c C (j + 1)).getD i [] = adC c (C.getD i []) (j + (i + 1))
      rw [h2 i (Nat.lt_of_succ_lt_succ hi), show j + 1 + i = j + (i + 1) by omega]
theorem adD_ok {C : List (List Nat)} {n c : Nat} {A : Nat → Nat → Int64} (hC : rdM C n n (fun j i => A i j)) : rdM (adD c C 0) n n (fun j i => A i j + (if i = j then jN c else 0)) := by
  obtain ⟨h1, h2⟩ := adD_s c C 0
  refine ⟨h1.trans hC.1, fun j hj => ?_⟩
  have hl := (hC.2 j hj).1
  rw [h2 j (by rw [hC.1]; exact hj), Nat.zero_add]
  obtain ⟨h3, h4⟩ := adC_ok c (C.getD j []) j
  refine ⟨h3.trans hl, fun i hi => ?_⟩
  rw [h4 i (by rw [hl]; exact hi), jN_add, (hC.2 j hj).2 i hi]
  show A i j + jN (if i = j then c else 0) = A i j + (if i = j then jN c else 0)
  by_cases h : i = j
  · rw [if_pos h, if_pos h]
  · rw [if_neg h, if_neg h]; rfl
noncomputable def mulM (R C : List (List Nat)) : List (List Nat) := C.map (fun v => mulC R v)
theorem mulM_ok {R C : List (List Nat)} {n : Nat} {T A : Nat → Nat → Int64} (hR : rdM R n n T) (hC : rdM C n n (fun j i => A i j)) : rdM (mulM R C) n n (fun j i => sF (fun l => T i l * A l j) (List.range n)) := rdM_map hC _ (fun j hj => mulC_ok hR (hC.2 j hj))
noncomputable def mmK {α : Type} (R C : List (List Nat)) : (List (List Nat) → α) → α := List.rec (motive := fun _ => (List (List Nat) → α) → α) (fun K => K []) (fun v _ ih K => mcK R v (fun x => ih (fun l => K (x :: l)))) C
theorem mmK_eq {α : Type} (R : List (List Nat)) : ∀ (C : List (List Nat)) (K : List (List Nat) → α), mmK R C K = K (mulM R C)
  | [], _ => rfl
  | v :: C, K => by
    show mcK R v (fun x => mmK R C (fun l => K (x :: l))) = _
    rw [mcK_eq, mmK_eq R C]; rfl
noncomputable def unC (n : Nat) : List (List Nat) := (List.range n).map (fun j => (List.range n).map (fun i => syc (Nat.beq i j) 1 0))
theorem unC_ok (n : Nat) : rdM (unC n) n n (fun j i => unM i j) := rdM_range (fun j _ => rd_range (fun i _ => by
  unfold unM
  by_cases h : i = j
  · rw [if_pos h, h, Nat.beq_refl]; rfl
  · rw [if_neg h, show Nat.beq i j = false from Bool.not_eq_true _ ▸ fun hh => h (Nat.eq_of_beq_eq_true hh)]; rfl))
/-- small: below 2^59 in size -/
noncomputable def smB (c : Nat) : Bool := syc (Nat.ble c 576460752303423487) true (syc (Nat.ble 18446744073133090817 c) (Nat.ble c 18446744073709551615) false)
theorem smB_ok {c : Nat} (h : smB c = true) : (jN c).toInt.natAbs ≤ 576460752303423487 := by
  rw [jN_int]
  unfold smB at h
  by_cases h1 : c ≤ 576460752303423487
  · rw [Int.bmod_eq_of_le (by omega) (by omega)]; omega
  · rw [show Nat.ble c 576460752303423487 = false from Bool.not_eq_true _ ▸ fun hh => h1 (Nat.le_of_ble_eq_true hh)] at h
    by_cases h2 : 18446744073133090817 ≤ c
    · rw [Nat.ble_eq_true_of_le h2] at h
      have h3 : c ≤ 18446744073709551615 := Nat.le_of_ble_eq_true h
      have : (c : Int).bmod 18446744073709551616 = (c : Int) - 18446744073709551616 := by
        unfold Int.bmod
        simp only []
        split <;> omega
      rw [this]; omega
    · rw [show Nat.ble 18446744073133090817 c = false from Bool.not_eq_true _ ▸ fun hh => h2 (Nat.le_of_ble_eq_true hh)] at h
      have h' : false = true := h
      exact absurd h' (by decide)
noncomputable def flK (T : List (List Nat)) (cs : List Nat) : Nat → List (List Nat) → Bool := List.rec (motive := fun _ => Nat → List (List Nat) → Bool) (fun _ _ => true) (fun c _ ih k C => mmK T C (fun C' => syc (syc (smB c) (Nat.beq (Nat.mod (Nat.add (trC C' 0 0) (Nat.mul (Nat.succ k) c)) 18446744073709551616) 0) false) (fcM (adD c C' 0) (fun C'' => ih (Nat.succ k) C'')) false)) cs
theorem flK_ok {L : List (List Nat)} {n : Nat} {T : Nat → Nat → Int64} (hL : rdM L n n T) {c : Nat → Int64} : ∀ (cs : List Nat) (k : Nat) (C : List (List Nat)), rd cs cs.length (fun i => c (k + i + 1)) → rdM C n n (fun j i => flM T n c k i j) → flK L cs k C = true → ∀ i, i < cs.length → flT T n c (k + i) + jN (k + i + 1) * c (k + i + 1) = 0 ∧ (c (k + i + 1)).toInt.natAbs ≤ 576460752303423487
  | [], k, C, _, _, _, i, hi => absurd hi (Nat.not_lt_zero i)
  | x :: cs, k, C, h1, h2, h3, i, hi => by
    have h3' : mmK L C (fun C' => syc (syc (smB x) (Nat.beq (Nat.mod (Nat.add (trC C' 0 0) (Nat.mul (Nat.succ k) x)) 18446744073709551616) 0) false) (fcM (adD x C' 0) (fun C'' => flK L cs (Nat.succ k) C'')) false) = true := h3
    rw [mmK_eq] at h3'
    obtain ⟨h4, h5⟩ := syc_f h3'
    obtain ⟨h6, h7⟩ := syc_f h4
    rw [fcM_eq] at h5
    obtain ⟨g1, g2⟩ := rd_cons.mp h1
    have hM := mulM_ok hL h2
    have ht := trC_ok hM
    have g1' : jN x = c (k + 1) := g1
    cases i with
    | zero =>
      refine ⟨?_, ?_⟩
      · have e := congrArg jN (Nat.eq_of_beq_eq_true h7)
        rw [jN_mod] at e
        have e2 : jN (trC (mulM L C) 0 0 + (k + 1) * x) = 0 := e
        rw [jN_add, jN_mul, ht, g1'] at e2
        exact e2
      · show (c (k + 1)).toInt.natAbs ≤ _
        rw [← g1']
        exact smB_ok h6
    | succ i =>
      have h8 := flK_ok hL cs (k + 1) (adD x (mulM L C) 0) (rd_cg g2 (fun j _ => congrArg c (by omega))) (by
        have h9 := adD_ok (c := x) hM
        refine ⟨h9.1, fun j hj => rd_cg (h9.2 j hj) (fun i hi => ?_)⟩
        rw [g1']; rfl) h5 i (Nat.lt_of_succ_lt_succ hi)
      rw [show k + 1 + i = k + (i + 1) by omega] at h8
      exact h8
theorem nI_J {k : Nat} (hk : k < 2 ^ 31) : (nI k).toInt64 = jN k := nI_j hk
theorem divBack {c : Int64} {k : Nat} (hk : k < 10) (hc : c.toInt.natAbs ≤ 576460752303423487) {t : Int64} (h : t + jN (k + 1) * c = 0) : -t / (nI (k + 1)).toInt64 = c := by
  rw [nI_J (by omega)]
  have e : -t = jN (k + 1) * c := by grind
  have hk1 : (jN (k + 1)).toInt = ((k + 1 : Nat) : Int) := by
    rw [jN_int]
    exact Int.bmod_eq_of_le (by omega) (by omega)
  have hlo : -5764607523034234870 ≤ ((k + 1 : Nat) : Int) * c.toInt ∧ ((k + 1 : Nat) : Int) * c.toInt ≤ 5764607523034234870 := by
    have h1 : -576460752303423487 ≤ c.toInt ∧ c.toInt ≤ 576460752303423487 := by omega
    rcases (show k = 0 ∨ k = 1 ∨ k = 2 ∨ k = 3 ∨ k = 4 ∨ k = 5 ∨ k = 6 ∨ k = 7 ∨ k = 8 ∨ k = 9 by omega) with rfl | rfl | rfl | rfl | rfl | rfl | rfl | rfl | rfl | rfl <;> omega
  have h2 : (jN (k + 1) * c).toInt = ((k + 1 : Nat) : Int) * c.toInt := by
    rw [Int64.toInt_mul, hk1]
    exact Int.bmod_eq_of_le (by omega) (by omega)
  rw [e]
  apply Int64.toInt_inj.mp
  rw [Int64.toInt_div, h2, hk1]
  have h3 : (((k + 1 : Nat) : Int) * c.toInt).tdiv ((k + 1 : Nat) : Int) = c.toInt := Int.mul_tdiv_cancel_left _ (by omega)
  rw [h3]
  exact Int.bmod_eq_of_le (by omega) (by omega)
