/-! H is symmetric and keeps how many are up: its powers from either side -/
def fpN (N p f : Nat) : Nat := (f ^^^ 2 ^ p) ^^^ 2 ^ ((p + 1) % N)
def pbN (N p : Nat) : Nat := 2 ^ p ^^^ 2 ^ ((p + 1) % N)
noncomputable def fpC (N p f : Nat) : Bool := syf (pbN N p) (fun b => syf (Nat.xor f b) (fun x => syf (Nat.land f b) (fun a => syc (Nat.beq (Nat.mod (Nat.div f (Nat.pow 2 p)) 2) (Nat.mod (Nat.div f (Nat.pow 2 (Nat.mod (Nat.succ p) N))) 2)) (syc (Nat.beq a 0) true (Nat.beq a b)) (syc (Nat.beq a 0) false (syc (Nat.beq a b) false (syc (Nat.ble (Nat.succ x) (Nat.pow 2 N)) (syc (Nat.beq x f) false (syc (Nat.beq (poN x) (poN f)) (syc (Nat.beq (Nat.mod (Nat.div x (Nat.pow 2 p)) 2) (Nat.mod (Nat.div x (Nat.pow 2 (Nat.mod (Nat.succ p) N))) 2)) false true) false)) false))))))
theorem fpC_fin : (List.range 9).all (fun N => Nat.ble N 1 || (List.range N).all (fun p => (List.range (2 ^ N)).all (fun f => fpC N p f))) = true := by decide +kernel
theorem fp_ok {N p f : Nat} (h2 : 2 ≤ N) (hN : N ≤ 8) (hp : p < N) (hf : f < 2 ^ N) : (f / 2 ^ p % 2 = f / 2 ^ ((p + 1) % N) % 2 → (f &&& pbN N p = 0 ∨ f &&& pbN N p = pbN N p)) ∧ (¬ f / 2 ^ p % 2 = f / 2 ^ ((p + 1) % N) % 2 → f &&& pbN N p ≠ 0 ∧ f &&& pbN N p ≠ pbN N p ∧ f ^^^ pbN N p < 2 ^ N ∧ f ^^^ pbN N p ≠ f ∧ poN (f ^^^ pbN N p) = poN f ∧ ¬ (f ^^^ pbN N p) / 2 ^ p % 2 = (f ^^^ pbN N p) / 2 ^ ((p + 1) % N) % 2) := by
  have h1 := List.all_eq_true.mp fpC_fin N (List.mem_range.mpr (by omega))
  rw [Bool.or_eq_true] at h1
  rcases h1 with h1 | h1
  · exact absurd (Nat.le_of_ble_eq_true h1) (by omega)
  have h3 := List.all_eq_true.mp (List.all_eq_true.mp h1 p (List.mem_range.mpr hp)) f (List.mem_range.mpr hf)
  unfold fpC at h3
  rw [syf_eq, syf_eq, syf_eq] at h3
  have h4 : syc (Nat.beq (f / 2 ^ p % 2) (f / 2 ^ ((p + 1) % N) % 2)) (syc (Nat.beq (f &&& pbN N p) 0) true (Nat.beq (f &&& pbN N p) (pbN N p))) (syc (Nat.beq (f &&& pbN N p) 0) false (syc (Nat.beq (f &&& pbN N p) (pbN N p)) false (syc (Nat.ble (Nat.succ (f ^^^ pbN N p)) (2 ^ N)) (syc (Nat.beq (f ^^^ pbN N p) f) false (syc (Nat.beq (poN (f ^^^ pbN N p)) (poN f)) (syc (Nat.beq ((f ^^^ pbN N p) / 2 ^ p % 2) ((f ^^^ pbN N p) / 2 ^ ((p + 1) % N) % 2)) false true) false)) false))) = true := h3
  refine ⟨fun e => ?_, fun e => ?_⟩
  · rw [e, Nat.beq_refl] at h4
    rcases syc_t (show syc (Nat.beq (f &&& pbN N p) 0) true (Nat.beq (f &&& pbN N p) (pbN N p)) = true from h4) with h5 | ⟨-, h5⟩
    · exact Or.inl (Nat.eq_of_beq_eq_true h5.1)
    · exact Or.inr (Nat.eq_of_beq_eq_true h5)
  · rw [beq_f e] at h4
    have ff : ∀ {b x : Bool}, syc b false x = true → b = false ∧ x = true := fun {b x} hh => by
      cases b with
      | true => exact absurd hh (by intro h; cases h)
      | false => exact ⟨rfl, hh⟩
    obtain ⟨g1, h4⟩ := ff h4
    obtain ⟨g2, h4⟩ := ff h4
    obtain ⟨g3, h4⟩ := syc_f h4
    obtain ⟨g4, h4⟩ := ff h4
    obtain ⟨g5, h4⟩ := syc_f h4
    obtain ⟨g6, -⟩ := ff h4
    have nb : ∀ {a b : Nat}, Nat.beq a b = false → a ≠ b := fun {a b} hh e => by
      rw [e, Nat.beq_refl] at hh
      cases hh
    exact ⟨nb g1, nb g2, Nat.le_of_ble_eq_true g3, nb g4, Nat.eq_of_beq_eq_true g5, nb g6⟩
theorem fpN_eq (N p f : Nat) : fpN N p f = f ^^^ pbN N p := Nat.xor_assoc f _ _
theorem fpN_in (N p f : Nat) : fpN N p (fpN N p f) = f := by rw [fpN_eq, fpN_eq, Nat.xor_assoc, Nat.xor_self, Nat.xor_zero]
theorem aStep_sym {N p : Nat} {e d : Int32} (h2 : 2 ≤ N) (hN : N ≤ 8) (hp : p < N) {f t : Nat} (hf : f < 2 ^ N) (ht : t < 2 ^ N) : aStep N e d f t p = aStep N e d t f p := by
  by_cases hft : f = t
  · rw [hft]
  · have key : ∀ {f t : Nat}, f < 2 ^ N → f ≠ t → aStep N e d f t p = if ¬ f / 2 ^ p % 2 = f / 2 ^ ((p + 1) % N) % 2 ∧ fpN N p f = t then e else 0 := fun {f t} hf hft => by
      unfold aStep
      by_cases h1 : f / 2 ^ p % 2 = f / 2 ^ ((p + 1) % N) % 2
      · rw [if_pos h1, if_neg hft, if_neg (fun hh => hh.1 h1)]
      · rw [if_neg h1, if_neg hft]
        by_cases h3 : (f ^^^ 2 ^ p) ^^^ 2 ^ ((p + 1) % N) = t
        · rw [if_pos h3, if_pos ⟨h1, h3⟩]
        · rw [if_neg h3, if_neg (fun hh => h3 hh.2)]
    have imp : ∀ {f t : Nat}, f < 2 ^ N → (¬ f / 2 ^ p % 2 = f / 2 ^ ((p + 1) % N) % 2 ∧ fpN N p f = t) → (¬ t / 2 ^ p % 2 = t / 2 ^ ((p + 1) % N) % 2 ∧ fpN N p t = f) := fun {f t} hf hh => by
      obtain ⟨a1, a2⟩ := hh
      have := ((fp_ok h2 hN hp hf).2 a1).2.2.2.2.2
      rw [← fpN_eq] at this
      rw [← a2]
      exact ⟨this, fpN_in N p f⟩
    rw [key hf hft, key ht (fun hh => hft hh.symm)]
    by_cases h1 : ¬ f / 2 ^ p % 2 = f / 2 ^ ((p + 1) % N) % 2 ∧ fpN N p f = t
    · rw [if_pos h1, if_pos (imp hf h1)]
    · rw [if_neg h1, if_neg (fun hh => h1 (imp ht hh))]
theorem aSum_sym {N : Nat} {e d : Int32} (h2 : 2 ≤ N) (hN : N ≤ 8) {f t : Nat} (hf : f < 2 ^ N) (ht : t < 2 ^ N) : ∀ P, P ≤ N → aSum N e d f t P = aSum N e d t f P
  | 0, _ => rfl
  | P + 1, hP => by
    show aSum N e d f t P + aStep N e d f t P = aSum N e d t f P + aStep N e d t f P
    rw [aSum_sym h2 hN hf ht P (by omega), aStep_sym h2 hN (by omega) hf ht]
theorem aSum_pop {N : Nat} {e d : Int32} (h2 : 2 ≤ N) (hN : N ≤ 8) {f t : Nat} (hf : f < 2 ^ N) (hne : poN f ≠ poN t) : ∀ P, P ≤ N → aSum N e d f t P = 0
  | 0, _ => rfl
  | P + 1, hP => by
    show aSum N e d f t P + aStep N e d f t P = 0
    have hft : f ≠ t := fun hh => hne (by rw [hh])
    have e1 : aStep N e d f t P = 0 := by
      unfold aStep
      by_cases h1 : f / 2 ^ P % 2 = f / 2 ^ ((P + 1) % N) % 2
      · rw [if_pos h1, if_neg hft]
      · rw [if_neg h1, if_neg hft, if_neg (fun hh => by
          have h3 := ((fp_ok h2 hN (by omega) hf).2 h1).2.2.2.2.1
          have h4 : fpN N P f = t := hh
          rw [← fpN_eq, h4] at h3
          exact hne h3.symm)]
    rw [aSum_pop h2 hN hf hne P (by omega), e1]; rfl
def hV (N r : Nat) (e d : Int32) (s t : Nat) : Int64 := (aSum N e d s t (chP N r)).toInt64
def vK (N r : Nat) (e d : Int32) (f : Nat) : Nat → Nat → Int64
  | 0, t => if t = f then 1 else 0
  | k + 1, t => sF (fun s => hV N r e d s t * vK N r e d f k s) (List.range (2 ^ N))
theorem chP_le (N r : Nat) : chP N r ≤ N := by unfold chP; split <;> omega
theorem sF_sw (F : Nat → Nat → Int64) (b : List Nat) : ∀ a : List Nat, sF (fun x => sF (fun y => F x y) b) a = sF (fun y => sF (fun x => F x y) a) b
  | [] => (sF_z b (fun _ _ => rfl)).symm
  | x :: a => by
    show sF (fun y => F x y) b + sF (fun x => sF (fun y => F x y) b) a = sF (fun y => F x y + sF (fun x => F x y) a) b
    rw [sF_sw F b a, sF_add]
section Vk
variable {N r : Nat} {e d : Int32}
theorem hV_sym (h2 : 2 ≤ N) (hN : N ≤ 8) {s t : Nat} (hs : s < 2 ^ N) (ht : t < 2 ^ N) : hV N r e d s t = hV N r e d t s := congrArg Int32.toInt64 (aSum_sym h2 hN hs ht _ (chP_le N r))
theorem hV_pop (h2 : 2 ≤ N) (hN : N ≤ 8) {s t : Nat} (hs : s < 2 ^ N) (hne : poN s ≠ poN t) : hV N r e d s t = 0 := by
  unfold hV
  rw [aSum_pop h2 hN hs hne _ (chP_le N r)]; rfl
theorem vK_pop (h2 : 2 ≤ N) (hN : N ≤ 8) (f : Nat) : ∀ k t, poN t ≠ poN f → vK N r e d f k t = 0
  | 0, t, hne => if_neg (fun hh => hne (by rw [hh]))
  | k + 1, t, hne => sF_z _ (fun s hs => by
      by_cases h1 : poN s = poN t
      · rw [vK_pop h2 hN f k s (fun hh => hne (h1.symm.trans hh))]; grind
      · rw [hV_pop h2 hN (List.mem_range.mp hs) h1]; grind)
theorem vK_adj (h2 : 2 ≤ N) (hN : N ≤ 8) (f a b : Nat) : sF (fun t => vK N r e d f (a + 1) t * vK N r e d f b t) (List.range (2 ^ N)) = sF (fun t => vK N r e d f a t * vK N r e d f (b + 1) t) (List.range (2 ^ N)) := by
  have e1 : sF (fun t => vK N r e d f (a + 1) t * vK N r e d f b t) (List.range (2 ^ N)) = sF (fun t => sF (fun s => hV N r e d s t * vK N r e d f a s * vK N r e d f b t) (List.range (2 ^ N))) (List.range (2 ^ N)) := sF_cg _ (fun t _ => by
    show sF (fun s => hV N r e d s t * vK N r e d f a s) (List.range (2 ^ N)) * vK N r e d f b t = _
    rw [Int64.mul_comm, sF_mul]
    exact sF_cg _ (fun s _ => Int64.mul_comm _ _))
  rw [e1, sF_sw]
  refine sF_cg _ (fun s hs => ?_)
  show _ = vK N r e d f a s * sF (fun t => hV N r e d t s * vK N r e d f b t) (List.range (2 ^ N))
  rw [sF_mul]
  refine sF_cg _ (fun t ht => ?_)
  rw [hV_sym h2 hN (List.mem_range.mp hs) (List.mem_range.mp ht)]
  grind
theorem vK_dot (h2 : 2 ≤ N) (hN : N ≤ 8) {f : Nat} (hf : f < 2 ^ N) : ∀ a b, sF (fun t => vK N r e d f a t * vK N r e d f b t) (List.range (2 ^ N)) = vK N r e d f (a + b) f
  | 0, b => by
    rw [Nat.zero_add]
    have e1 : sF (fun t => vK N r e d f 0 t * vK N r e d f b t) (List.range (2 ^ N)) = sF (fun t => if t = f then vK N r e d f b t else 0) (List.range (2 ^ N)) := sF_cg _ (fun t _ => by
      show (if t = f then (1 : Int64) else 0) * _ = _
      by_cases h : t = f
      · rw [if_pos h, if_pos h]; grind
      · rw [if_neg h, if_neg h]; grind)
    rw [e1, sF_one, if_pos hf]
  | a + 1, b => by
    rw [vK_adj h2 hN, vK_dot h2 hN hf a (b + 1), show a + (b + 1) = a + 1 + b by omega]
theorem vK_1 {f : Nat} (hf : f < 2 ^ N) (t : Nat) : vK N r e d f 1 t = hV N r e d f t := by
  show sF (fun s => hV N r e d s t * (if s = f then (1 : Int64) else 0)) (List.range (2 ^ N)) = _
  have e1 : sF (fun s => hV N r e d s t * (if s = f then (1 : Int64) else 0)) (List.range (2 ^ N)) = sF (fun s => if s = f then hV N r e d s t else 0) (List.range (2 ^ N)) := sF_cg _ (fun s _ => by
    by_cases h : s = f
    · rw [if_pos h, if_pos h]; grind
    · rw [if_neg h, if_neg h]; grind)
  rw [e1, sF_one, if_pos hf]
/-- the states with m up -/
noncomputable def mlL (N m : Nat) : List Nat := (List.range (2 ^ N)).filter (fun s => Nat.beq (poN s) m)
theorem mlL_mem {m t : Nat} : t ∈ mlL N m ↔ t < 2 ^ N ∧ poN t = m := by
  unfold mlL
  rw [List.mem_filter, List.mem_range]
  exact ⟨fun hh => ⟨hh.1, Nat.eq_of_beq_eq_true hh.2⟩, fun hh => ⟨hh.1, by rw [hh.2]; exact Nat.beq_refl m⟩⟩
theorem sF_ml {m : Nat} (F : Nat → Int64) (h : ∀ t, t < 2 ^ N → poN t ≠ m → F t = 0) : sF F (mlL N m) = sF F (List.range (2 ^ N)) := sF_filt F _ _ (fun t ht hb => h t (List.mem_range.mp ht) (fun hh => by
  rw [hh, Nat.beq_refl] at hb
  cases hb))
theorem ml_fin : (List.range 9).all (fun N => (List.range 9).all (fun m => Nat.ble (mlL N m).length 70)) = true := by decide +kernel
theorem ml_70 {m : Nat} (hN : N ≤ 8) (hm : m ≤ N) : (mlL N m).length ≤ 70 := Nat.le_of_ble_eq_true (List.all_eq_true.mp (List.all_eq_true.mp ml_fin N (List.mem_range.mpr (by omega))) m (List.mem_range.mpr (by omega)))
theorem vK_2 (h2 : 2 ≤ N) (hN : N ≤ 8) {f : Nat} (hf : f < 2 ^ N) (t : Nat) : sF (fun u => hV N r e d f u * hV N r e d u t) (mlL N (poN f)) = vK N r e d f 2 t := by
  rw [sF_ml _ (fun u hu hne => by rw [hV_pop h2 hN hf (fun hh => hne hh.symm)]; grind)]
  refine sF_cg _ (fun u _ => ?_)
  rw [vK_1 hf u]; grind
theorem at_n (h2 : 2 ≤ N) (hN : N ≤ 8) {f : Nat} (hf : f < 2 ^ N) (a b : Nat) : sF (fun t => vK N r e d f a t * vK N r e d f b t) (mlL N (poN f)) = vK N r e d f (a + b) f := by
  rw [sF_ml _ (fun u hu hne => by rw [vK_pop h2 hN f a u hne]; grind)]
  exact vK_dot h2 hN hf a b
end Vk
