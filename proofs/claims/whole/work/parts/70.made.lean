/-! what is made of the great table; sorted words that are the same -/
theorem zlp_E {B R σ : Type} {z : B} {F : B → B} (ev : σ → B → R) (P : σ → Prop) (X : R → Prop) (μ : σ → Nat) (hs : ∀ s, P s → (∀ r, X (ev s (F r))) ∨ (∃ s', P s' ∧ μ s' < μ s ∧ ∀ r, ev s (F r) = ev s' r)) (s : σ) (hP : P s) (n : Nat) (hn : μ s < n) : X (ev s (zlp z F n)) := by
  induction n generalizing s with
  | zero => omega
  | succ n ih =>
    show X (ev s (F (zlp z F n)))
    rcases hs s hP with h | ⟨s', h1, h2, h3⟩
    · exact h _
    · rw [h3]
      exact ih s' h1 (by omega)
theorem nbig {x : Int64} (h : ¬ bigJ x) : -1000000 ≤ x.toInt32.toInt ∧ x.toInt32.toInt ≤ 1000000 := by
  unfold bigJ ab at h
  have c6 : (1000000 : Int64).toInt = 1000000 := rfl
  have hlo : -2 ^ 63 ≤ x.toInt := Int64.le_toInt x
  have hhi : x.toInt < 2 ^ 63 := Int64.toInt_lt x
  rw [Int64.toInt_toInt32]
  by_cases h0 : (0 : Int32) ≤ lg_cmp x 0
  · rw [if_pos h0] at h
    have hx : ¬ x < 0 := fun hh => absurd ((lg_cmp_lt x 0).mpr hh) (Int32.not_lt.mpr h0)
    rw [Int64.lt_iff_toInt_lt] at hx h
    rw [c6] at h
    rw [show (0 : Int64).toInt = 0 from rfl] at hx
    rw [Int.bmod_eq_of_le (by omega) (by omega)]
    omega
  · rw [if_neg h0] at h
    have hx : x < 0 := (lg_cmp_lt x 0).mp (Int32.not_le.mp h0)
    rw [Int64.lt_iff_toInt_lt] at hx h
    rw [show (0 : Int64).toInt = 0 from rfl] at hx
    rw [c6, Int64.toInt_neg] at h
    by_cases hm : x.toInt = -2 ^ 63
    · rw [hm]
      decide
    · rw [Int.bmod_eq_of_le (by omega) (by omega)] at h
      rw [Int.bmod_eq_of_le (by omega) (by omega)]
      omega
theorem nz_pw (f g : Nat → Int64) : ∀ n, (nz f g n).Pairwise (fun a b => a.1 < b.1)
  | 0 => List.Pairwise.nil
  | n + 1 => by
    unfold nz
    split
    · exact nz_pw f g n
    · refine List.pairwise_append.mpr ⟨nz_pw f g n, List.pairwise_singleton _ _, fun a ha b hb => ?_⟩
      rw [List.mem_singleton] at hb
      subst hb
      exact (nz_lt f g n a ha).1
def madeL (f g : Nat → Int64) : List Wd := (nz f g 65536).map cutW
theorem madeL_ok {f g : Nat → Int64} (hl : (nz f g 65536).length ≤ 60) (hs : ¬ spent f g 65536) : wdOk (madeL f g) := by
  refine ⟨by unfold madeL; rw [List.length_map]; exact hl, ?_, fun w hw => ?_⟩
  · unfold madeL
    rw [List.pairwise_map]
    exact nz_pw f g 65536
  · unfold madeL at hw
    obtain ⟨c, hc, rfl⟩ := List.mem_map.mp hw
    obtain ⟨h1, h2, h3, h4⟩ := nz_lt f g 65536 c hc
    have n1 : ¬ bigJ c.2.1 := fun hb => hs ⟨c.1, h1, Or.inl (by rw [← h2]; exact hb)⟩
    have n2 : ¬ bigJ c.2.2 := fun hb => hs ⟨c.1, h1, Or.inr (by rw [← h3]; exact hb)⟩
    exact ⟨h1, (nbig n1).1, (nbig n1).2, (nbig n2).1, (nbig n2).2⟩
def smU (s : Nat → List Wd) (k : Nat) (l : List Wd) : Nat → List Wd := fun i => if i = k then l else s i
theorem smU_ok {s : Nat → List Wd} {k : Nat} {l : List Wd} (hs : ∀ i, i < 4 → wdOk (s i)) (hl : wdOk l) : ∀ i, i < 4 → wdOk (smU s k l i) := fun i hi => by
  unfold smU
  split
  · exact hl
  · exact hs i hi
theorem putCur {I : Nat → Nat → Int32} {c : Ch} {s : Nat → List Wd} {k : Nat} {l : List Wd} (hk : k < 5) (hs : ∀ i, i < 4 → (s i).length ≤ 60) (hl : l.length ≤ 60) (h : curM I c s) : curM (zU (rowP I k l) 23 k (nI l.length)) c (smU s k l) ∧ sumM (zU (rowP I k l) 23 k (nI l.length)) k l := by
  obtain ⟨⟨a0, a1, a2, a3⟩, a4⟩ := h
  have ho : ∀ a b, ¬ (a = 23 ∧ b = k) → ¬ (24 ≤ a ∧ a ≤ 26 ∧ 60 * k ≤ b ∧ b < 60 * k + 60) → zU (rowP I k l) 23 k (nI l.length) a b = I a b := fun a b h1 h2 => by
    rw [zU_n _ _ _ _ _ _ h1]
    unfold rowP
    rw [if_neg (by omega)]
  have hsum : sumM (zU (rowP I k l) 23 k (nI l.length)) k l := by
    refine ⟨zU_e _ _ _ _, fun i w hw => ?_⟩
    have hi := len_i hw
    have hr : ∀ a, 24 ≤ a → a ≤ 26 → zU (rowP I k l) 23 k (nI l.length) a (60 * k + i) = wV a w := fun a h1 h2 => by
      rw [zU_n _ _ _ _ _ _ (by omega)]
      unfold rowP
      rw [if_pos (by omega), Nat.add_sub_cancel_left, hw]
    exact ⟨hr 24 (by omega) (by omega), hr 25 (by omega) (by omega), hr 26 (by omega) (by omega)⟩
  refine ⟨⟨⟨(ho _ _ (by omega) (by omega)).trans a0, (ho _ _ (by omega) (by omega)).trans a1, (ho _ _ (by omega) (by omega)).trans a2, (ho _ _ (by omega) (by omega)).trans a3⟩, fun i hi => ?_⟩, hsum⟩
  unfold smU
  by_cases hik : i = k
  · subst hik
    rw [if_pos rfl]
    exact hsum
  · rw [if_neg hik]
    obtain ⟨b0, b1⟩ := a4 i hi
    refine ⟨(ho _ _ (by omega) (by omega)).trans b0, fun j w hw => ?_⟩
    have hj := len_i hw
    have hli := hs i hi
    obtain ⟨c0, c1, c2⟩ := b1 j w hw
    exact ⟨(ho _ _ (by omega) (by omega)).trans c0, (ho _ _ (by omega) (by omega)).trans c1, (ho _ _ (by omega) (by omega)).trans c2⟩
section Ops
variable {L : Led} {n : Nat} {w : Nat → Wt} {S : Nat → Option Sh} {fa tr : Int32} {I : Nat → Nat → Int32} {J : Nat → Nat → Int64}
/-- the reference makes a sum of the great table, or finds it spent -/
theorem putOrSpent_ok {f g : Nat → Int64} {k : Nat} (hk : k < 4) (hL : ledOk L) (q : stM I L n w S fa tr) : ((60 < (nz f g 65536).length ∨ spent f g 65536) ∧ gX12_putOrSpent (mH I (wJ J f g)) 0 (nI k) = some (-6, mH I (wJ J f g))) ∨ (wdOk (madeL f g) ∧ ((nz f g 65536).length ≤ 60 ∧ ¬ spent f g 65536) ∧ ∃ I', gX12_putOrSpent (mH I (wJ J f g)) 0 (nI k) = some (nI (madeL f g).length, mH I' (wJ J f g)) ∧ stM I' (recL L (L.1 L.2.2.1) (smU (L.2.1 L.2.2.1) k (madeL f g))) n w S fa tr) := by
  have ht : L.2.2.1 ≤ 20 := Nat.le_trans hL.1 hL.2.1
  obtain ⟨x, hx, hc⟩ := isMadeSpent_ok I J f g
  unfold gX12_putOrSpent
  rw [hx, zbi_s]
  rcases hc with ⟨rfl, h60, hsp⟩ | ⟨rfl, hb⟩
  · right
    have hok := madeL_ok h60 hsp
    refine ⟨hok, ⟨h60, hsp⟩, ?_⟩
    have hlen : (madeL f g).length = (nz f g 65536).length := List.length_map _
    rw [if_pos rfl, putSum_ok I J f g k (by omega) h60, zbI_s]
    show ∃ I', zbV (gX12_acted (mH (zU (rowP I k (madeL f g)) 23 k (nI (nz f g 65536).length)) (wJ J f g)) 0) _ = _ ∧ _
    rw [← hlen]
    have hs60 : ∀ i, i < 4 → ((L.2.1 L.2.2.1) i).length ≤ 60 := fun i hi => ((hL.2.2 _ hL.1).2 i hi).1
    obtain ⟨hcur, hsum⟩ := putCur (k := k) (l := madeL f g) (by omega) hs60 hok.1 q.1.2
    have hI : ∀ a b, ¬ (a = 0 ∧ 1 ≤ b ∧ b ≤ 4) → ¬ (23 ≤ a ∧ a ≤ 26) → ¬ mScr a b → zU (rowP I k (madeL f g)) 23 k (nI (madeL f g).length) a b = I a b := fun a b n1 n2 n3 => by
      rw [zU_n _ _ _ _ _ _ (by omega)]
      unfold rowP
      rw [if_neg (by omega)]
    have h37 : zU (rowP I k (madeL f g)) 23 k (nI (madeL f g).length) 0 37 = nI L.2.2.1 := (hI 0 37 (by omega) (by omega) (by unfold mScr; omega)).trans q.1.1.1
    have q2 := acted_st hL (hL.2.2 _ hL.1).1 (smU_ok (k := k) (fun i hi => (hL.2.2 _ hL.1).2 i hi) hok) _ hI hcur q
    refine ⟨_, ?_, q2⟩
    rw [acted_ok _ _ _ ht h37, zbV_s]
    repeat (first | rw [mR_29] | rw [min_ (mL_23 _ _) (show k < 5 by omega) (by omega)] | rw [zx_nI (show k < 2 ^ 31 by omega)] | rw [mI_] | rw [zlt_] | rw [zjn_] | rw [zob_s] | rw [zg_1] | rw [zbi_s] | rw [zbI_s] | rw [zbr_s] | rw [zbR_s] | rw [zbV_s] | rw [zbj_s] | rw [zbJ_s] | rw [zcs_s] | rw [zcs_n])
    rw [macted_o _ _ _ _ (by decide) (by omega), zU_e]
  · left
    refine ⟨hb, ?_⟩
    rw [if_neg (by decide)]
end Ops
/-- a list of words, sorted and none 0, is known by what comes to each key -/
def eR (E : List (Nat × Int64 × Int64)) : List (Nat × Int64) := E.map (fun c => (c.1, c.2.1))
def eI (E : List (Nat × Int64 × Int64)) : List (Nat × Int64) := E.map (fun c => (c.1, c.2.2))
theorem sAt_none {cs : List (Nat × Int64)} {x : Nat} (h : ∀ c ∈ cs, c.1 ≠ x) : sAt cs x = 0 := by
  induction cs with
  | nil => rfl
  | cons c cs ih =>
    show (if c.1 = x then c.2 else 0) + sAt cs x = 0
    rw [if_neg (h c List.mem_cons_self), ih (fun d hd => h d (List.mem_cons_of_mem _ hd))]
    rfl
theorem nz_unique : ∀ (n : Nat) (E : List (Nat × Int64 × Int64)) (f g : Nat → Int64), E.Pairwise (fun a b => a.1 < b.1) → (∀ c ∈ E, c.1 < n ∧ ¬ (c.2.1 = 0 ∧ c.2.2 = 0)) → (∀ x, x < n → sAt (eR E) x = f x ∧ sAt (eI E) x = g x) → E = nz f g n
  | 0, E, f, g, _, hk, _ => by
    cases E with
    | nil => rfl
    | cons c E => exact absurd (hk c List.mem_cons_self).1 (Nat.not_lt_zero _)
  | n + 1, E, f, g, hp, hk, hs => by
    have hz : nz f g (n + 1) = if f n = 0 ∧ g n = 0 then nz f g n else nz f g n ++ [(n, f n, g n)] := rfl
    rw [hz]
    by_cases hex : ∃ c ∈ E, c.1 = n
    · obtain ⟨c, hc, hcn⟩ := hex
      obtain ⟨A, B, rfl⟩ := List.append_of_mem hc
      have hB : B = [] := by
        cases B with
        | nil => rfl
        | cons d B =>
          have h1 := (List.pairwise_append.mp hp).2.1
          have h2 := (List.pairwise_cons.mp h1).1 d List.mem_cons_self
          have h3 := (hk d (by simp)).1
          omega
      subst hB
      have hA : ∀ d ∈ A, d.1 < n := fun d hd => by
        have := (List.pairwise_append.mp hp).2.2 d hd c (by simp)
        omega
      obtain ⟨h1, h2⟩ := hs n (by omega)
      have e1 : c.2.1 = f n := by
        rw [← h1]
        unfold eR
        rw [List.map_append, sAt_app, sAt_none (fun d hd => by obtain ⟨d', hd', rfl⟩ := List.mem_map.mp hd; have := hA d' hd'; show d'.1 ≠ n; omega)]
        show c.2.1 = 0 + ((if c.1 = n then c.2.1 else 0) + 0)
        rw [if_pos hcn]; grind
      have e2 : c.2.2 = g n := by
        rw [← h2]
        unfold eI
        rw [List.map_append, sAt_app, sAt_none (fun d hd => by obtain ⟨d', hd', rfl⟩ := List.mem_map.mp hd; have := hA d' hd'; show d'.1 ≠ n; omega)]
        show c.2.2 = 0 + ((if c.1 = n then c.2.2 else 0) + 0)
        rw [if_pos hcn]; grind
      have hnz := (hk c hc).2
      rw [e1, e2] at hnz
      rw [if_neg hnz]
      have hc' : c = (n, f n, g n) := Prod.ext hcn (Prod.ext e1 e2)
      rw [← nz_unique n A f g (List.pairwise_append.mp hp).1 (fun d hd => ⟨hA d hd, (hk d (by simp [hd])).2⟩) (fun x hx => ?_), hc']
      obtain ⟨g1, g2⟩ := hs x (by omega)
      have hne : ¬ c.1 = x := by omega
      refine ⟨?_, ?_⟩
      · rw [← g1]
        unfold eR
        rw [List.map_append, sAt_app]
        show _ = _ + ((if c.1 = x then c.2.1 else 0) + 0)
        rw [if_neg hne]; grind
      · rw [← g2]
        unfold eI
        rw [List.map_append, sAt_app]
        show _ = _ + ((if c.1 = x then c.2.2 else 0) + 0)
        rw [if_neg hne]; grind
    · have hA : ∀ d ∈ E, d.1 < n := fun d hd => by
        have h1 := (hk d hd).1
        have h2 : d.1 ≠ n := fun e => hex ⟨d, hd, e⟩
        omega
      obtain ⟨h1, h2⟩ := hs n (by omega)
      have e1 : f n = 0 := by
        rw [← h1]
        exact sAt_none (fun d hd => by obtain ⟨d', hd', rfl⟩ := List.mem_map.mp hd; have := hA d' hd'; show d'.1 ≠ n; omega)
      have e2 : g n = 0 := by
        rw [← h2]
        exact sAt_none (fun d hd => by obtain ⟨d', hd', rfl⟩ := List.mem_map.mp hd; have := hA d' hd'; show d'.1 ≠ n; omega)
      rw [if_pos ⟨e1, e2⟩]
      exact nz_unique n E f g hp (fun d hd => ⟨hA d hd, (hk d hd).2⟩) (fun x hx => hs x (by omega))
