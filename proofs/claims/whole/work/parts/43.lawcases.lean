def zS_chain (Inv : Nat → Zh → Zh → Prop) : Prop := ∀ (k : Nat) (hx hm : Zh) (x1 x2 x3 x4 : Int32), (x2 = 0 ∨ x2 = 1) → k < 512 → Inv k hx hm → ∃ (r : Int32) (hx' : Zh) (hm' : Zh), gX11_chain hx 0 x1 x2 x3 x4 = some (r, hx') ∧ gX12_chain hm 0 x1 x2 x3 x4 = some (r, hm') ∧ Inv (k + 1) hx' hm'
def zS_act (Inv : Nat → Zh → Zh → Prop) : Prop := ∀ (k : Nat) (hx hm : Zh) (x1 x2 : Int32), k < 512 → Inv k hx hm → ∃ (r : Int64), gX11_act hx 0 x1 x2 = some r ∧ gX12_act hm 0 x1 x2 = some r ∧ Inv (k + 1) hx hm
def zS_turned (Inv : Nat → Zh → Zh → Prop) : Prop := ∀ (k : Nat) (hx hm : Zh) (x1 : Int32), k < 512 → Inv k hx hm → ∃ (r : Int32), gX11_turned hx 0 x1 = some r ∧ gX12_turned hm 0 x1 = some r ∧ Inv (k + 1) hx hm
def zS_size (Inv : Nat → Zh → Zh → Prop) : Prop := ∀ (k : Nat) (hx hm : Zh) (x1 x2 : Int32), k < 512 → Inv k hx hm → ∃ (r : Int32) (hx' : Zh) (hm' : Zh), gX11_size hx 0 x1 x2 = some (r, hx') ∧ gX12_size hm 0 x1 x2 = some (r, hm') ∧ Inv (k + 1) hx' hm'
def zS_head (Inv : Nat → Zh → Zh → Prop) : Prop := ∀ (k : Nat) (hx hm : Zh) (x1 x2 x3 : Int32), k < 512 → Inv k hx hm → ∃ (r : Int32) (hx' : Zh) (hm' : Zh), gX11_head hx 0 x1 x2 x3 = some (r, hx') ∧ gX12_head hm 0 x1 x2 x3 = some (r, hm') ∧ Inv (k + 1) hx' hm'
def zS_entry (Inv : Nat → Zh → Zh → Prop) : Prop := ∀ (k : Nat) (hx hm : Zh) (x1 x2 x3 x4 : Int32), k < 512 → Inv k hx hm → ∃ (r : Int64) (hx' : Zh) (hm' : Zh), gX11_entry hx 0 x1 x2 x3 x4 = some (r, hx') ∧ gX12_entry hm 0 x1 x2 x3 x4 = some (r, hm') ∧ Inv (k + 1) hx' hm'
def zS_poly (Inv : Nat → Zh → Zh → Prop) : Prop := ∀ (k : Nat) (hx hm : Zh) (x1 x2 x3 : Int32), k < 512 → Inv k hx hm → ∃ (r : Int64) (hx' : Zh) (hm' : Zh), gX11_poly hx 0 x1 x2 x3 = some (r, hx') ∧ gX12_poly hm 0 x1 x2 x3 = some (r, hm') ∧ Inv (k + 1) hx' hm'
def zS_above (Inv : Nat → Zh → Zh → Prop) : Prop := ∀ (k : Nat) (hx hm : Zh) (x1 x2 x3 : Int32), k < 512 → Inv k hx hm → ∃ (r : Int32) (hx' : Zh) (hm' : Zh), gX11_above hx 0 x1 x2 x3 = some (r, hx') ∧ gX12_above hm 0 x1 x2 x3 = some (r, hm') ∧ Inv (k + 1) hx' hm'
def zS_often (Inv : Nat → Zh → Zh → Prop) : Prop := ∀ (k : Nat) (hx hm : Zh) (x1 x2 x3 : Int32), k < 512 → Inv k hx hm → ∃ (r : Int32) (hx' : Zh) (hm' : Zh), gX11_often hx 0 x1 x2 x3 = some (r, hx') ∧ gX12_often hm 0 x1 x2 x3 = some (r, hm') ∧ Inv (k + 1) hx' hm'
def zS_whole (Inv : Nat → Zh → Zh → Prop) : Prop := ∀ (k : Nat) (hx hm : Zh) (x1 x2 : Int32), k < 512 → Inv k hx hm → ∃ (r : Int32) (hx' : Zh) (hm' : Zh), gX11_whole hx 0 x1 x2 = some (r, hx') ∧ gX12_whole hm 0 x1 x2 = some (r, hm') ∧ Inv (k + 1) hx' hm'
def zS_power (Inv : Nat → Zh → Zh → Prop) : Prop := ∀ (k : Nat) (hx hm : Zh) (x1 x2 x3 : Int32), k < 512 → Inv k hx hm → ∃ (r : Int64) (hx' : Zh) (hm' : Zh), gX11_power hx 0 x1 x2 x3 = some (r, hx') ∧ gX12_power hm 0 x1 x2 x3 = some (r, hm') ∧ Inv (k + 1) hx' hm'
def zS_powerOf (Inv : Nat → Zh → Zh → Prop) : Prop := ∀ (k : Nat) (hx hm : Zh) (x1 x2 : Int32), k < 512 → Inv k hx hm → ∃ (r : Int64) (hx' : Zh) (hm' : Zh), gX11_powerOf hx 0 x1 x2 = some (r, hx') ∧ gX12_powerOf hm 0 x1 x2 = some (r, hm') ∧ Inv (k + 1) hx' hm'
def zS_rest (Inv : Nat → Zh → Zh → Prop) : Prop := ∀ (k : Nat) (hx hm : Zh) (x1 x2 x3 x4 : Int32), k < 512 → Inv k hx hm → ∃ (r : Int64) (hx' : Zh) (hm' : Zh), gX11_rest hx 0 x1 x2 x3 x4 = some (r, hx') ∧ gX12_rest hm 0 x1 x2 x3 x4 = some (r, hm') ∧ Inv (k + 1) hx' hm'
def zS_seen (Inv : Nat → Zh → Zh → Prop) : Prop := ∀ (k : Nat) (hx hm : Zh) (x1 x2 x3 x4 x5 x6 : Int32), k < 512 → Inv k hx hm → ∃ (r : Int64) (hx' : Zh) (hm' : Zh), gX11_seen hx 0 x1 x2 x3 x4 x5 x6 = some (r, hx') ∧ gX12_seen hm 0 x1 x2 x3 x4 x5 x6 = some (r, hm') ∧ Inv (k + 1) hx' hm'
def zS_weights (Inv : Nat → Zh → Zh → Prop) : Prop := ∀ (k : Nat) (hx hm : Zh) (x1 x2 x3 x4 : Int32), k < 512 → Inv k hx hm → ∃ (r : Int32) (hx' : Zh) (hm' : Zh), gX11_weights hx 0 x1 x2 x3 x4 = some (r, hx') ∧ gX12_weights hm 0 x1 x2 x3 x4 = some (r, hm') ∧ Inv (k + 1) hx' hm'
def zS_weightsOf (Inv : Nat → Zh → Zh → Prop) : Prop := ∀ (k : Nat) (hx hm : Zh) (x1 x2 x3 x4 : Int32), k < 512 → Inv k hx hm → ∃ (r : Int32) (hx' : Zh) (hm' : Zh), gX11_weightsOf hx 0 x1 x2 x3 x4 = some (r, hx') ∧ gX12_weightsOf hm 0 x1 x2 x3 x4 = some (r, hm') ∧ Inv (k + 1) hx' hm'
def zS_weight (Inv : Nat → Zh → Zh → Prop) : Prop := ∀ (k : Nat) (hx hm : Zh) (x1 x2 : Int32), k < 512 → Inv k hx hm → ∃ (r : Int64), gX11_weight hx 0 x1 x2 = some r ∧ gX12_weight hm 0 x1 x2 = some r ∧ Inv (k + 1) hx hm
def zS_rowEntry (Inv : Nat → Zh → Zh → Prop) : Prop := ∀ (k : Nat) (hx hm : Zh) (x1 x2 x3 x4 : Int32), k < 512 → Inv k hx hm → ∃ (r : Int64), gX11_rowEntry hx 0 x1 x2 x3 x4 = some r ∧ gX12_rowEntry hm 0 x1 x2 x3 x4 = some r ∧ Inv (k + 1) hx hm
def zS_unlike (Inv : Nat → Zh → Zh → Prop) : Prop := ∀ (k : Nat) (hx hm : Zh) (x1 x2 x3 : Int32), k < 512 → Inv k hx hm → ∃ (r : Int32) (hx' : Zh) (hm' : Zh), gX11_unlike hx 0 x1 x2 x3 = some (r, hx') ∧ gX12_unlike hm 0 x1 x2 x3 = some (r, hm') ∧ Inv (k + 1) hx' hm'
def zS_ice (Inv : Nat → Zh → Zh → Prop) : Prop := ∀ (k : Nat) (hx hm : Zh) (x1 x2 x3 : Int32), k < 512 → Inv k hx hm → ∃ (r : Int32) (hx' : Zh) (hm' : Zh), gX11_ice hx 0 x1 x2 x3 = some (r, hx') ∧ gX12_ice hm 0 x1 x2 x3 = some (r, hm') ∧ Inv (k + 1) hx' hm'
def zS_walls (Inv : Nat → Zh → Zh → Prop) : Prop := ∀ (k : Nat) (hx hm : Zh) (x1 x2 : Int32), k < 512 → Inv k hx hm → ∃ (r : Int32) (hx' : Zh) (hm' : Zh), gX11_walls hx 0 x1 x2 = some (r, hx') ∧ gX12_walls hm 0 x1 x2 = some (r, hm') ∧ Inv (k + 1) hx' hm'
def zS_exchange (Inv : Nat → Zh → Zh → Prop) : Prop := ∀ (k : Nat) (hx hm : Zh) (x1 x2 x3 : Int32), k < 512 → Inv k hx hm → ∃ (r : Int32) (hx' : Zh) (hm' : Zh), gX11_exchange hx 0 x1 x2 x3 = some (r, hx') ∧ gX12_exchange hm 0 x1 x2 x3 = some (r, hm') ∧ Inv (k + 1) hx' hm'
def zS_add (Inv : Nat → Zh → Zh → Prop) : Prop := ∀ (k : Nat) (hx hm : Zh) (x1 x2 x3 x4 x5 : Int32), k < 512 → Inv k hx hm → ∃ (r : Int32) (hx' : Zh) (hm' : Zh), gX11_add hx 0 x1 x2 x3 x4 x5 = some (r, hx') ∧ gX12_add hm 0 x1 x2 x3 x4 x5 = some (r, hm') ∧ Inv (k + 1) hx' hm'
def zS_clear (Inv : Nat → Zh → Zh → Prop) : Prop := ∀ (k : Nat) (hx hm : Zh) (x1 : Int32), k < 512 → Inv k hx hm → ∃ (r : Int32) (hx' : Zh) (hm' : Zh), gX11_clear hx 0 x1 = some (r, hx') ∧ gX12_clear hm 0 x1 = some (r, hm') ∧ Inv (k + 1) hx' hm'
def zS_asChain (Inv : Nat → Zh → Zh → Prop) : Prop := ∀ (k : Nat) (hx hm : Zh) (x1 : Int32), k < 512 → Inv k hx hm → ∃ (r : Int32) (hx' : Zh) (hm' : Zh), gX11_asChain hx 0 x1 = some (r, hx') ∧ gX12_asChain hm 0 x1 = some (r, hm') ∧ Inv (k + 1) hx' hm'
def zS_join (Inv : Nat → Zh → Zh → Prop) : Prop := ∀ (k : Nat) (hx hm : Zh) (x1 x2 x3 x4 : Int32), k < 512 → Inv k hx hm → ∃ (r : Int32) (hx' : Zh) (hm' : Zh), gX11_join hx 0 x1 x2 x3 x4 = some (r, hx') ∧ gX12_join hm 0 x1 x2 x3 x4 = some (r, hm') ∧ Inv (k + 1) hx' hm'
def zS_shift (Inv : Nat → Zh → Zh → Prop) : Prop := ∀ (k : Nat) (hx hm : Zh) (x1 x2 x3 : Int32), k < 512 → Inv k hx hm → ∃ (r : Int32) (hx' : Zh) (hm' : Zh), gX11_shift hx 0 x1 x2 x3 = some (r, hx') ∧ gX12_shift hm 0 x1 x2 x3 = some (r, hm') ∧ Inv (k + 1) hx' hm'
def zS_word (Inv : Nat → Zh → Zh → Prop) : Prop := ∀ (k : Nat) (hx hm : Zh) (x1 x2 x3 : Int32), k < 512 → Inv k hx hm → ∃ (r : Int64), gX11_word hx 0 x1 x2 x3 = some r ∧ gX12_word hm 0 x1 x2 x3 = some r ∧ Inv (k + 1) hx hm
def zS_words (Inv : Nat → Zh → Zh → Prop) : Prop := ∀ (k : Nat) (hx hm : Zh) (x1 : Int32), k < 512 → Inv k hx hm → ∃ (r : Int32), gX11_words hx 0 x1 = some r ∧ gX12_words hm 0 x1 = some r ∧ Inv (k + 1) hx hm
def zS_bracket (Inv : Nat → Zh → Zh → Prop) : Prop := ∀ (k : Nat) (hx hm : Zh) (x1 x2 : Int32), k < 512 → Inv k hx hm → ∃ (r : Int32) (hx' : Zh) (hm' : Zh), gX11_bracket hx 0 x1 x2 = some (r, hx') ∧ gX12_bracket hm 0 x1 x2 = some (r, hm') ∧ Inv (k + 1) hx' hm'
def zS_kept (Inv : Nat → Zh → Zh → Prop) : Prop := ∀ (k : Nat) (hx hm : Zh) (x1 : Int32), k < 512 → Inv k hx hm → ∃ (r : Int32) (hx' : Zh) (hm' : Zh), gX11_kept hx 0 x1 = some (r, hx') ∧ gX12_kept hm 0 x1 = some (r, hm') ∧ Inv (k + 1) hx' hm'
def zS_undo (Inv : Nat → Zh → Zh → Prop) : Prop := ∀ (k : Nat) (hx hm : Zh), k < 512 → Inv k hx hm → ∃ (r : Int32) (hx' : Zh) (hm' : Zh), gX11_undo hx 0 = some (r, hx') ∧ gX12_undo hm 0 = some (r, hm') ∧ Inv (k + 1) hx' hm'
def zS_redo (Inv : Nat → Zh → Zh → Prop) : Prop := ∀ (k : Nat) (hx hm : Zh), k < 512 → Inv k hx hm → ∃ (r : Int32) (hx' : Zh) (hm' : Zh), gX11_redo hx 0 = some (r, hx') ∧ gX12_redo hm 0 = some (r, hm') ∧ Inv (k + 1) hx' hm'
def zS_sheet (Inv : Nat → Zh → Zh → Prop) : Prop := ∀ (k : Nat) (hx hm : Zh) (x1 x2 x3 : Int32), k < 512 → Inv k hx hm → ∃ (r : Int32) (hx' : Zh) (hm' : Zh), gX11_sheet hx 0 x1 x2 x3 = some (r, hx') ∧ gX12_sheet hm 0 x1 x2 x3 = some (r, hm') ∧ Inv (k + 1) hx' hm'
def zS_lose (Inv : Nat → Zh → Zh → Prop) : Prop := ∀ (k : Nat) (hx hm : Zh) (x1 : Int32), k < 512 → Inv k hx hm → ∃ (r : Int32) (hx' : Zh) (hm' : Zh), gX11_lose hx 0 x1 = some (r, hx') ∧ gX12_lose hm 0 x1 = some (r, hm') ∧ Inv (k + 1) hx' hm'
def zS_put (Inv : Nat → Zh → Zh → Prop) : Prop := ∀ (k : Nat) (hx hm : Zh) (x1 x2 x3 : Int32), k < 512 → Inv k hx hm → ∃ (r : Int32) (hx' : Zh) (hm' : Zh), gX11_put hx 0 x1 x2 x3 = some (r, hx') ∧ gX12_put hm 0 x1 x2 x3 = some (r, hm') ∧ Inv (k + 1) hx' hm'
def zS_cell (Inv : Nat → Zh → Zh → Prop) : Prop := ∀ (k : Nat) (hx hm : Zh) (x1 x2 x3 : Int32), k < 512 → Inv k hx hm → ∃ (r : Int64) (hx' : Zh) (hm' : Zh), gX11_cell hx 0 x1 x2 x3 = some (r, hx') ∧ gX12_cell hm 0 x1 x2 x3 = some (r, hm') ∧ Inv (k + 1) hx' hm'
def zS_copy (Inv : Nat → Zh → Zh → Prop) : Prop := ∀ (k : Nat) (hx hm : Zh) (x1 x2 x3 x4 x5 : Int32), k < 512 → Inv k hx hm → ∃ (r : Int32) (hx' : Zh) (hm' : Zh), gX11_copy hx 0 x1 x2 x3 x4 x5 = some (r, hx') ∧ gX12_copy hm 0 x1 x2 x3 x4 x5 = some (r, hm') ∧ Inv (k + 1) hx' hm'
def zS_tell (Inv : Nat → Zh → Zh → Prop) : Prop := ∀ (k : Nat) (hx hm : Zh) (x1 : Int32), k < 512 → Inv k hx hm → ∃ (r : Int32) (hx' : Zh) (hm' : Zh), gX11_tell hx 0 x1 = some (r, hx') ∧ gX12_tell hm 0 x1 = some (r, hm') ∧ Inv (k + 1) hx' hm'
def zS_name (Inv : Nat → Zh → Zh → Prop) : Prop := ∀ (k : Nat) (hx hm : Zh) (x1 : Int32), k < 512 → Inv k hx hm → ∃ (r : Int32) (hx' : Zh) (hm' : Zh), gX11_name hx 0 x1 = some (r, hx') ∧ gX12_name hm 0 x1 = some (r, hm') ∧ Inv (k + 1) hx' hm'
def zS_as (Inv : Nat → Zh → Zh → Prop) : Prop := ∀ (k : Nat) (hx hm : Zh) (x1 x2 : Int32), k < 512 → Inv k hx hm → ∃ (r : Int32) (hx' : Zh) (hm' : Zh), gX11_as hx 0 x1 x2 = some (r, hx') ∧ gX12_as hm 0 x1 x2 = some (r, hm') ∧ Inv (k + 1) hx' hm'
def zS_trace (Inv : Nat → Zh → Zh → Prop) : Prop := ∀ (k : Nat) (hx hm : Zh), k < 512 → Inv k hx hm → ∃ (r : Int32), gX11_trace hx 0 = some r ∧ gX12_trace hm 0 = some r ∧ Inv (k + 1) hx hm
def zS_fault (Inv : Nat → Zh → Zh → Prop) : Prop := ∀ (k : Nat) (hx hm : Zh), k < 512 → Inv k hx hm → ∃ (r : Int32), gX11_fault hx 0 = some r ∧ gX12_fault hm 0 = some r ∧ Inv (k + 1) hx hm
def zS_many (Inv : Nat → Zh → Zh → Prop) : Prop := ∀ (k : Nat) (hx hm : Zh) (x1 : Int32), k < 512 → Inv k hx hm → ∃ (r : Int32), gX11_many hx 0 x1 = some r ∧ gX12_many hm 0 x1 = some r ∧ Inv (k + 1) hx hm
def zvi (x3 : Int32) (L : Nat) : Prop := vp_in (x3 + 1) L ∧ vp_in (x3 + 2) L ∧ vp_in (x3 + 3) L ∧ vp_in (x3 + 4) L ∧ vp_in (x3 + 5) L ∧ vp_in (x3 + 6) L
def zBd (Inv : Nat → Zh → Zh → Prop) : Prop := ∀ (k : Nat) (hx hm : Zh), k ≤ 512 → Inv k hx hm → (0 < zN hx ∧ zK hx 0 = 11) ∧ (0 < zN hm ∧ zK hm 0 = 12) ∧ zN hx + zN hm ≤ 600000 ∧ zS hx + zS hm ≤ 7302250
def zAll (Inv : Nat → Zh → Zh → Prop) : Prop := zS_chain Inv ∧ zS_act Inv ∧ zS_turned Inv ∧ zS_size Inv ∧ zS_head Inv ∧ zS_entry Inv ∧ zS_poly Inv ∧ zS_above Inv ∧ zS_often Inv ∧ zS_whole Inv ∧ zS_power Inv ∧ zS_powerOf Inv ∧ zS_rest Inv ∧ zS_seen Inv ∧ zS_weights Inv ∧ zS_weightsOf Inv ∧ zS_weight Inv ∧ zS_rowEntry Inv ∧ zS_unlike Inv ∧ zS_ice Inv ∧ zS_walls Inv ∧ zS_exchange Inv ∧ zS_add Inv ∧ zS_clear Inv ∧ zS_asChain Inv ∧ zS_join Inv ∧ zS_shift Inv ∧ zS_word Inv ∧ zS_words Inv ∧ zS_bracket Inv ∧ zS_kept Inv ∧ zS_undo Inv ∧ zS_redo Inv ∧ zS_sheet Inv ∧ zS_lose Inv ∧ zS_put Inv ∧ zS_cell Inv ∧ zS_copy Inv ∧ zS_tell Inv ∧ zS_name Inv ∧ zS_as Inv ∧ zS_trace Inv ∧ zS_fault Inv ∧ zS_many Inv
theorem lc_chain {p : Program} {l : Launch} {e : Env} {s : State} {m : MethodId} {below : List Frame} {meth : Method} {c : Code} {b L : Nat} {xs : Nat → Int32} {D : va_G} {cA : Nat → ClassId} {la lb : Nat} {x3 : Int32} {Inv : Nat → Zh → Zh → Prop} (hS : zS_chain Inv) (hB : zBd Inv) {k : Nat} {hx hm : Zh} (hk : k < 512) (hv : zvi x3 L) (hI : Inv k hx hm) (K : ∀ hx' hm', Inv (k + 1) hx' hm' → U p l e s m below meth c b L xs D cA la lb x3 la lb 1905 [] hx' hm') : U p l e s m below meth c b L xs D cA la lb x3 la lb 224 [] hx hm := by
  refine u_aload1 (eL_0 22 rfl) ?_
  refine u_aload0 (eL_0 23 rfl) ?_
  refine u_iload3 (eL_0 24 rfl) ?_
  refine u_iconst (eL_0 25 rfl) zk_iconst_1 ?_
  refine u_iadd (eL_0 26 rfl) ?_
  refine u_sld hv.1 (eL_0 27 rfl) ?_
  refine u_aload0 (eL_0 28 rfl) ?_
  refine u_iload3 (eL_0 29 rfl) ?_
  refine u_iconst (eL_0 30 rfl) zk_iconst_2 ?_
  refine u_iadd (eL_0 31 rfl) ?_
  refine u_sld hv.2.1 (eL_0 32 rfl) ?_
  refine u_if0 (eL_0 33 rfl) (t := 242) (by decide) (fun hq => ?_) (fun hq => ?_)
  · refine u_iconst (eL_0 36 rfl) zk_iconst_0 ?_
    refine u_aload0 (eL_0 37 rfl) ?_
    refine u_iload3 (eL_0 38 rfl) ?_
    refine u_iconst (eL_0 39 rfl) zk_iconst_3 ?_
    refine u_iadd (eL_0 40 rfl) ?_
    refine u_sld hv.2.2.1 (eL_0 41 rfl) ?_
    refine u_aload0 (eL_0 42 rfl) ?_
    refine u_iload3 (eL_0 43 rfl) ?_
    refine u_iconst (eL_0 44 rfl) zk_iconst_4 ?_
    refine u_iadd (eL_0 45 rfl) ?_
    refine u_sld hv.2.2.2.1 (eL_0 46 rfl) ?_
    obtain ⟨r, hx', hm', e1, e2, hI'⟩ := hS k hx hm (xs (x3 + 1).toNatClampNeg) 0 (xs (x3 + 3).toNatClampNeg) (xs (x3 + 4).toNatClampNeg) (by decide) hk hI
    have hB1 := hB k hx hm (Nat.le_of_lt hk) hI
    have hB2 := hB (k + 1) hx' hm' hk hI'
    have hle : zLe hm hm' := ((cX12_chain_ok l hm 0 (xs (x3 + 1).toNatClampNeg) 0 (xs (x3 + 3).toNatClampNeg) (xs (x3 + 4).toNatClampNeg)) (zoI (r, hm')) (by rw [e2]; rfl)).1
    refine u_callV (ai := [(xs (x3 + 1).toNatClampNeg), 0, (xs (x3 + 3).toNatClampNeg), (xs (x3 + 4).toNatClampNeg)]) (rest := []) (cv1 := zoI) (cX11_chain_ok l hx 0 (xs (x3 + 1).toNatClampNeg) 0 (xs (x3 + 3).toNatClampNeg) (xs (x3 + 4).toNatClampNeg)) e1 hB1.1 (fun _ => rfl) ⟨(by have q1 := hle.1; have q2 := hB2.2.2.1; show zN hx' + zN hm ≤ _; omega), (by have q1 := hle.2.1; have q2 := hB2.2.2.2; show zS hx' + zS hm ≤ _; omega)⟩ rfl (by decide) zcd_X11_chain rfl ⟨zw_211, zw_212, zw_213, zw_57⟩ ⟨Nat.le_of_ble_eq_true rfl, Nat.le_of_ble_eq_true rfl⟩ rfl (Nat.le_of_ble_eq_true rfl) (eL_0 47 rfl) ?_
    refine u_aload2 (eL_0 48 rfl) ?_
    refine u_aload0 (eL_0 49 rfl) ?_
    refine u_iload3 (eL_1 0 rfl) ?_
    refine u_iconst (eL_1 1 rfl) zk_iconst_1 ?_
    refine u_iadd (eL_1 2 rfl) ?_
    refine u_sld hv.1 (eL_1 3 rfl) ?_
    refine u_aload0 (eL_1 4 rfl) ?_
    refine u_iload3 (eL_1 5 rfl) ?_
    refine u_iconst (eL_1 6 rfl) zk_iconst_2 ?_
    refine u_iadd (eL_1 7 rfl) ?_
    refine u_sld hv.2.1 (eL_1 8 rfl) ?_
    refine u_if0 (eL_1 9 rfl) (t := 274) (by decide) (fun _ => ?_) (fun hq2 => absurd hq hq2)
    refine u_iconst (eL_1 12 rfl) zk_iconst_0 ?_
    refine u_aload0 (eL_1 13 rfl) ?_
    refine u_iload3 (eL_1 14 rfl) ?_
    refine u_iconst (eL_1 15 rfl) zk_iconst_3 ?_
    refine u_iadd (eL_1 16 rfl) ?_
    refine u_sld hv.2.2.1 (eL_1 17 rfl) ?_
    refine u_aload0 (eL_1 18 rfl) ?_
    refine u_iload3 (eL_1 19 rfl) ?_
    refine u_iconst (eL_1 20 rfl) zk_iconst_4 ?_
    refine u_iadd (eL_1 21 rfl) ?_
    refine u_sld hv.2.2.2.1 (eL_1 22 rfl) ?_
    refine u_swap ?_
    refine u_callV (ai := [(xs (x3 + 1).toNatClampNeg), 0, (xs (x3 + 3).toNatClampNeg), (xs (x3 + 4).toNatClampNeg)]) (rest := [.int r]) (cv1 := zoI) (cX12_chain_ok l hm 0 (xs (x3 + 1).toNatClampNeg) 0 (xs (x3 + 3).toNatClampNeg) (xs (x3 + 4).toNatClampNeg)) e2 hB1.2.1 (fun _ => rfl) ⟨(by have q2 := hB2.2.2.1; show zN hm' + zN hx' ≤ _; omega), (by have q2 := hB2.2.2.2; show zS hm' + zS hx' ≤ _; omega)⟩ rfl (by decide) zcd_X12_chain rfl ⟨zw_1197, zw_1198, zw_1199, zw_62⟩ ⟨Nat.le_of_ble_eq_true rfl, Nat.le_of_ble_eq_true rfl⟩ rfl (Nat.le_of_ble_eq_true rfl) (eL_1 23 rfl) ?_
    refine u_swap ?_
    exact u_eqT (eL_1 24 rfl) (t := 1905) (by decide) (K _ _ hI')
  · refine u_iconst (eL_0 34 rfl) zk_iconst_1 ?_
    refine u_goto (eL_0 35 rfl) (t := 243) (by decide) ?_
    refine u_aload0 (eL_0 37 rfl) ?_
    refine u_iload3 (eL_0 38 rfl) ?_
    refine u_iconst (eL_0 39 rfl) zk_iconst_3 ?_
    refine u_iadd (eL_0 40 rfl) ?_
    refine u_sld hv.2.2.1 (eL_0 41 rfl) ?_
    refine u_aload0 (eL_0 42 rfl) ?_
    refine u_iload3 (eL_0 43 rfl) ?_
    refine u_iconst (eL_0 44 rfl) zk_iconst_4 ?_
    refine u_iadd (eL_0 45 rfl) ?_
    refine u_sld hv.2.2.2.1 (eL_0 46 rfl) ?_
    obtain ⟨r, hx', hm', e1, e2, hI'⟩ := hS k hx hm (xs (x3 + 1).toNatClampNeg) 1 (xs (x3 + 3).toNatClampNeg) (xs (x3 + 4).toNatClampNeg) (by decide) hk hI
    have hB1 := hB k hx hm (Nat.le_of_lt hk) hI
    have hB2 := hB (k + 1) hx' hm' hk hI'
    have hle : zLe hm hm' := ((cX12_chain_ok l hm 0 (xs (x3 + 1).toNatClampNeg) 1 (xs (x3 + 3).toNatClampNeg) (xs (x3 + 4).toNatClampNeg)) (zoI (r, hm')) (by rw [e2]; rfl)).1
    refine u_callV (ai := [(xs (x3 + 1).toNatClampNeg), 1, (xs (x3 + 3).toNatClampNeg), (xs (x3 + 4).toNatClampNeg)]) (rest := []) (cv1 := zoI) (cX11_chain_ok l hx 0 (xs (x3 + 1).toNatClampNeg) 1 (xs (x3 + 3).toNatClampNeg) (xs (x3 + 4).toNatClampNeg)) e1 hB1.1 (fun _ => rfl) ⟨(by have q1 := hle.1; have q2 := hB2.2.2.1; show zN hx' + zN hm ≤ _; omega), (by have q1 := hle.2.1; have q2 := hB2.2.2.2; show zS hx' + zS hm ≤ _; omega)⟩ rfl (by decide) zcd_X11_chain rfl ⟨zw_211, zw_212, zw_213, zw_57⟩ ⟨Nat.le_of_ble_eq_true rfl, Nat.le_of_ble_eq_true rfl⟩ rfl (Nat.le_of_ble_eq_true rfl) (eL_0 47 rfl) ?_
    refine u_aload2 (eL_0 48 rfl) ?_
    refine u_aload0 (eL_0 49 rfl) ?_
    refine u_iload3 (eL_1 0 rfl) ?_
    refine u_iconst (eL_1 1 rfl) zk_iconst_1 ?_
    refine u_iadd (eL_1 2 rfl) ?_
    refine u_sld hv.1 (eL_1 3 rfl) ?_
    refine u_aload0 (eL_1 4 rfl) ?_
    refine u_iload3 (eL_1 5 rfl) ?_
    refine u_iconst (eL_1 6 rfl) zk_iconst_2 ?_
    refine u_iadd (eL_1 7 rfl) ?_
    refine u_sld hv.2.1 (eL_1 8 rfl) ?_
    refine u_if0 (eL_1 9 rfl) (t := 274) (by decide) (fun hq2 => absurd hq2 hq) (fun _ => ?_)
    refine u_iconst (eL_1 10 rfl) zk_iconst_1 ?_
    refine u_goto (eL_1 11 rfl) (t := 275) (by decide) ?_
    refine u_aload0 (eL_1 13 rfl) ?_
    refine u_iload3 (eL_1 14 rfl) ?_
    refine u_iconst (eL_1 15 rfl) zk_iconst_3 ?_
    refine u_iadd (eL_1 16 rfl) ?_
    refine u_sld hv.2.2.1 (eL_1 17 rfl) ?_
    refine u_aload0 (eL_1 18 rfl) ?_
    refine u_iload3 (eL_1 19 rfl) ?_
    refine u_iconst (eL_1 20 rfl) zk_iconst_4 ?_
    refine u_iadd (eL_1 21 rfl) ?_
    refine u_sld hv.2.2.2.1 (eL_1 22 rfl) ?_
    refine u_swap ?_
    refine u_callV (ai := [(xs (x3 + 1).toNatClampNeg), 1, (xs (x3 + 3).toNatClampNeg), (xs (x3 + 4).toNatClampNeg)]) (rest := [.int r]) (cv1 := zoI) (cX12_chain_ok l hm 0 (xs (x3 + 1).toNatClampNeg) 1 (xs (x3 + 3).toNatClampNeg) (xs (x3 + 4).toNatClampNeg)) e2 hB1.2.1 (fun _ => rfl) ⟨(by have q2 := hB2.2.2.1; show zN hm' + zN hx' ≤ _; omega), (by have q2 := hB2.2.2.2; show zS hm' + zS hx' ≤ _; omega)⟩ rfl (by decide) zcd_X12_chain rfl ⟨zw_1197, zw_1198, zw_1199, zw_62⟩ ⟨Nat.le_of_ble_eq_true rfl, Nat.le_of_ble_eq_true rfl⟩ rfl (Nat.le_of_ble_eq_true rfl) (eL_1 23 rfl) ?_
    refine u_swap ?_
    exact u_eqT (eL_1 24 rfl) (t := 1905) (by decide) (K _ _ hI')
theorem lc_act {p : Program} {l : Launch} {e : Env} {s : State} {m : MethodId} {below : List Frame} {meth : Method} {c : Code} {b L : Nat} {xs : Nat → Int32} {D : va_G} {cA : Nat → ClassId} {la lb : Nat} {x3 : Int32} {Inv : Nat → Zh → Zh → Prop} (hS : zS_act Inv) (hB : zBd Inv) {k : Nat} {hx hm : Zh} (hk : k < 512) (hv : zvi x3 L) (hI : Inv k hx hm) (K : ∀ hx' hm', Inv (k + 1) hx' hm' → U p l e s m below meth c b L xs D cA la lb x3 la lb 1905 [] hx' hm') : U p l e s m below meth c b L xs D cA la lb x3 la lb 293 [] hx hm := by
  refine u_aload1 (eL_1 27 rfl) ?_
  refine u_aload0 (eL_1 28 rfl) ?_
  refine u_iload3 (eL_1 29 rfl) ?_
  refine u_iconst (eL_1 30 rfl) zk_iconst_1 ?_
  refine u_iadd (eL_1 31 rfl) ?_
  refine u_sld hv.1 (eL_1 32 rfl) ?_
  refine u_aload0 (eL_1 33 rfl) ?_
  refine u_iload3 (eL_1 34 rfl) ?_
  refine u_iconst (eL_1 35 rfl) zk_iconst_2 ?_
  refine u_iadd (eL_1 36 rfl) ?_
  refine u_sld hv.2.1 (eL_1 37 rfl) ?_
  obtain ⟨r, e1, e2, hI'⟩ := hS k hx hm (xs (x3 + 1).toNatClampNeg) (xs (x3 + 2).toNatClampNeg) hk hI
  have hB1 := hB k hx hm (Nat.le_of_lt hk) hI
  have hB2 := hB (k + 1) hx hm hk hI'
  have hle : zLe hm hm := ((cX12_act_ok l hm 0 (xs (x3 + 1).toNatClampNeg) (xs (x3 + 2).toNatClampNeg)) ((zoj hm) r) (by rw [e2]; rfl)).1
  refine u_callV (ai := [(xs (x3 + 1).toNatClampNeg), (xs (x3 + 2).toNatClampNeg)]) (rest := []) (cv1 := (zoj hx)) (cX11_act_ok l hx 0 (xs (x3 + 1).toNatClampNeg) (xs (x3 + 2).toNatClampNeg)) e1 hB1.1 (fun _ => rfl) ⟨(by have q1 := hle.1; have q2 := hB2.2.2.1; show zN hx + zN hm ≤ _; omega), (by have q1 := hle.2.1; have q2 := hB2.2.2.2; show zS hx + zS hm ≤ _; omega)⟩ rfl (by decide) zcd_X11_act rfl ⟨zw_227, zw_228, zw_229, zw_57⟩ ⟨Nat.le_of_ble_eq_true rfl, Nat.le_of_ble_eq_true rfl⟩ rfl (Nat.le_of_ble_eq_true rfl) (eL_1 38 rfl) ?_
  refine u_aload2 (eL_1 39 rfl) ?_
  refine u_aload0 (eL_1 40 rfl) ?_
  refine u_iload3 (eL_1 41 rfl) ?_
  refine u_iconst (eL_1 42 rfl) zk_iconst_1 ?_
  refine u_iadd (eL_1 43 rfl) ?_
  refine u_sld hv.1 (eL_1 44 rfl) ?_
  refine u_aload0 (eL_1 45 rfl) ?_
  refine u_iload3 (eL_1 46 rfl) ?_
  refine u_iconst (eL_1 47 rfl) zk_iconst_2 ?_
  refine u_iadd (eL_1 48 rfl) ?_
  refine u_sld hv.2.1 (eL_1 49 rfl) ?_
  refine u_swap ?_
  refine u_callV (ai := [(xs (x3 + 1).toNatClampNeg), (xs (x3 + 2).toNatClampNeg)]) (rest := [.long r]) (cv1 := (zoj hm)) (cX12_act_ok l hm 0 (xs (x3 + 1).toNatClampNeg) (xs (x3 + 2).toNatClampNeg)) e2 hB1.2.1 (fun _ => rfl) ⟨(by have q2 := hB2.2.2.1; show zN hm + zN hx ≤ _; omega), (by have q2 := hB2.2.2.2; show zS hm + zS hx ≤ _; omega)⟩ rfl (by decide) zcd_X12_act rfl ⟨zw_1216, zw_1217, zw_1218, zw_62⟩ ⟨Nat.le_of_ble_eq_true rfl, Nat.le_of_ble_eq_true rfl⟩ rfl (Nat.le_of_ble_eq_true rfl) (eL_2 0 rfl) ?_
  refine u_swap ?_
  exact u_lcmpT (eL_2 1 rfl) (eL_2 2 rfl) (t := 1905) (by decide) (K _ _ hI')
theorem lc_turned {p : Program} {l : Launch} {e : Env} {s : State} {m : MethodId} {below : List Frame} {meth : Method} {c : Code} {b L : Nat} {xs : Nat → Int32} {D : va_G} {cA : Nat → ClassId} {la lb : Nat} {x3 : Int32} {Inv : Nat → Zh → Zh → Prop} (hS : zS_turned Inv) (hB : zBd Inv) {k : Nat} {hx hm : Zh} (hk : k < 512) (hv : zvi x3 L) (hI : Inv k hx hm) (K : ∀ hx' hm', Inv (k + 1) hx' hm' → U p l e s m below meth c b L xs D cA la lb x3 la lb 1905 [] hx' hm') : U p l e s m below meth c b L xs D cA la lb x3 la lb 327 [] hx hm := by
  refine u_aload1 (eL_2 5 rfl) ?_
  refine u_aload0 (eL_2 6 rfl) ?_
  refine u_iload3 (eL_2 7 rfl) ?_
  refine u_iconst (eL_2 8 rfl) zk_iconst_1 ?_
  refine u_iadd (eL_2 9 rfl) ?_
  refine u_sld hv.1 (eL_2 10 rfl) ?_
  obtain ⟨r, e1, e2, hI'⟩ := hS k hx hm (xs (x3 + 1).toNatClampNeg) hk hI
  have hB1 := hB k hx hm (Nat.le_of_lt hk) hI
  have hB2 := hB (k + 1) hx hm hk hI'
  have hle : zLe hm hm := ((cX12_turned_ok l hm 0 (xs (x3 + 1).toNatClampNeg)) ((zoi hm) r) (by rw [e2]; rfl)).1
  refine u_callV (ai := [(xs (x3 + 1).toNatClampNeg)]) (rest := []) (cv1 := (zoi hx)) (cX11_turned_ok l hx 0 (xs (x3 + 1).toNatClampNeg)) e1 hB1.1 (fun _ => rfl) ⟨(by have q1 := hle.1; have q2 := hB2.2.2.1; show zN hx + zN hm ≤ _; omega), (by have q1 := hle.2.1; have q2 := hB2.2.2.2; show zS hx + zS hm ≤ _; omega)⟩ rfl (by decide) zcd_X11_turned rfl ⟨zw_265, zw_266, zw_267, zw_57⟩ ⟨Nat.le_of_ble_eq_true rfl, Nat.le_of_ble_eq_true rfl⟩ rfl (Nat.le_of_ble_eq_true rfl) (eL_2 11 rfl) ?_
  refine u_aload2 (eL_2 12 rfl) ?_
  refine u_aload0 (eL_2 13 rfl) ?_
  refine u_iload3 (eL_2 14 rfl) ?_
  refine u_iconst (eL_2 15 rfl) zk_iconst_1 ?_
  refine u_iadd (eL_2 16 rfl) ?_
  refine u_sld hv.1 (eL_2 17 rfl) ?_
  refine u_swap ?_
  refine u_callV (ai := [(xs (x3 + 1).toNatClampNeg)]) (rest := [.int r]) (cv1 := (zoi hm)) (cX12_turned_ok l hm 0 (xs (x3 + 1).toNatClampNeg)) e2 hB1.2.1 (fun _ => rfl) ⟨(by have q2 := hB2.2.2.1; show zN hm + zN hx ≤ _; omega), (by have q2 := hB2.2.2.2; show zS hm + zS hx ≤ _; omega)⟩ rfl (by decide) zcd_X12_turned rfl ⟨zw_1240, zw_1241, zw_1242, zw_62⟩ ⟨Nat.le_of_ble_eq_true rfl, Nat.le_of_ble_eq_true rfl⟩ rfl (Nat.le_of_ble_eq_true rfl) (eL_2 18 rfl) ?_
  refine u_swap ?_
  exact u_eqT (eL_2 19 rfl) (t := 1905) (by decide) (K _ _ hI')
theorem lc_size {p : Program} {l : Launch} {e : Env} {s : State} {m : MethodId} {below : List Frame} {meth : Method} {c : Code} {b L : Nat} {xs : Nat → Int32} {D : va_G} {cA : Nat → ClassId} {la lb : Nat} {x3 : Int32} {Inv : Nat → Zh → Zh → Prop} (hS : zS_size Inv) (hB : zBd Inv) {k : Nat} {hx hm : Zh} (hk : k < 512) (hv : zvi x3 L) (hI : Inv k hx hm) (K : ∀ hx' hm', Inv (k + 1) hx' hm' → U p l e s m below meth c b L xs D cA la lb x3 la lb 1905 [] hx' hm') : U p l e s m below meth c b L xs D cA la lb x3 la lb 350 [] hx hm := by
  refine u_aload1 (eL_2 22 rfl) ?_
  refine u_aload0 (eL_2 23 rfl) ?_
  refine u_iload3 (eL_2 24 rfl) ?_
  refine u_iconst (eL_2 25 rfl) zk_iconst_1 ?_
  refine u_iadd (eL_2 26 rfl) ?_
  refine u_sld hv.1 (eL_2 27 rfl) ?_
  refine u_aload0 (eL_2 28 rfl) ?_
  refine u_iload3 (eL_2 29 rfl) ?_
  refine u_iconst (eL_2 30 rfl) zk_iconst_2 ?_
  refine u_iadd (eL_2 31 rfl) ?_
  refine u_sld hv.2.1 (eL_2 32 rfl) ?_
  obtain ⟨r, hx', hm', e1, e2, hI'⟩ := hS k hx hm (xs (x3 + 1).toNatClampNeg) (xs (x3 + 2).toNatClampNeg) hk hI
  have hB1 := hB k hx hm (Nat.le_of_lt hk) hI
  have hB2 := hB (k + 1) hx' hm' hk hI'
  have hle : zLe hm hm' := ((cX12_size_ok l hm 0 (xs (x3 + 1).toNatClampNeg) (xs (x3 + 2).toNatClampNeg)) (zoI (r, hm')) (by rw [e2]; rfl)).1
  refine u_callV (ai := [(xs (x3 + 1).toNatClampNeg), (xs (x3 + 2).toNatClampNeg)]) (rest := []) (cv1 := zoI) (cX11_size_ok l hx 0 (xs (x3 + 1).toNatClampNeg) (xs (x3 + 2).toNatClampNeg)) e1 hB1.1 (fun _ => rfl) ⟨(by have q1 := hle.1; have q2 := hB2.2.2.1; show zN hx' + zN hm ≤ _; omega), (by have q1 := hle.2.1; have q2 := hB2.2.2.2; show zS hx' + zS hm ≤ _; omega)⟩ rfl (by decide) zcd_X11_size rfl ⟨zw_277, zw_278, zw_279, zw_57⟩ ⟨Nat.le_of_ble_eq_true rfl, Nat.le_of_ble_eq_true rfl⟩ rfl (Nat.le_of_ble_eq_true rfl) (eL_2 33 rfl) ?_
  refine u_aload2 (eL_2 34 rfl) ?_
  refine u_aload0 (eL_2 35 rfl) ?_
  refine u_iload3 (eL_2 36 rfl) ?_
  refine u_iconst (eL_2 37 rfl) zk_iconst_1 ?_
  refine u_iadd (eL_2 38 rfl) ?_
  refine u_sld hv.1 (eL_2 39 rfl) ?_
  refine u_aload0 (eL_2 40 rfl) ?_
  refine u_iload3 (eL_2 41 rfl) ?_
  refine u_iconst (eL_2 42 rfl) zk_iconst_2 ?_
  refine u_iadd (eL_2 43 rfl) ?_
  refine u_sld hv.2.1 (eL_2 44 rfl) ?_
  refine u_swap ?_
  refine u_callV (ai := [(xs (x3 + 1).toNatClampNeg), (xs (x3 + 2).toNatClampNeg)]) (rest := [.int r]) (cv1 := zoI) (cX12_size_ok l hm 0 (xs (x3 + 1).toNatClampNeg) (xs (x3 + 2).toNatClampNeg)) e2 hB1.2.1 (fun _ => rfl) ⟨(by have q2 := hB2.2.2.1; show zN hm' + zN hx' ≤ _; omega), (by have q2 := hB2.2.2.2; show zS hm' + zS hx' ≤ _; omega)⟩ rfl (by decide) zcd_X12_size rfl ⟨zw_1251, zw_1252, zw_1253, zw_62⟩ ⟨Nat.le_of_ble_eq_true rfl, Nat.le_of_ble_eq_true rfl⟩ rfl (Nat.le_of_ble_eq_true rfl) (eL_2 45 rfl) ?_
  refine u_swap ?_
  exact u_eqT (eL_2 46 rfl) (t := 1905) (by decide) (K _ _ hI')
theorem lc_head {p : Program} {l : Launch} {e : Env} {s : State} {m : MethodId} {below : List Frame} {meth : Method} {c : Code} {b L : Nat} {xs : Nat → Int32} {D : va_G} {cA : Nat → ClassId} {la lb : Nat} {x3 : Int32} {Inv : Nat → Zh → Zh → Prop} (hS : zS_head Inv) (hB : zBd Inv) {k : Nat} {hx hm : Zh} (hk : k < 512) (hv : zvi x3 L) (hI : Inv k hx hm) (K : ∀ hx' hm', Inv (k + 1) hx' hm' → U p l e s m below meth c b L xs D cA la lb x3 la lb 1905 [] hx' hm') : U p l e s m below meth c b L xs D cA la lb x3 la lb 383 [] hx hm := by
  refine u_aload1 (eL_2 49 rfl) ?_
  refine u_aload0 (eL_3 0 rfl) ?_
  refine u_iload3 (eL_3 1 rfl) ?_
  refine u_iconst (eL_3 2 rfl) zk_iconst_1 ?_
  refine u_iadd (eL_3 3 rfl) ?_
  refine u_sld hv.1 (eL_3 4 rfl) ?_
  refine u_aload0 (eL_3 5 rfl) ?_
  refine u_iload3 (eL_3 6 rfl) ?_
  refine u_iconst (eL_3 7 rfl) zk_iconst_2 ?_
  refine u_iadd (eL_3 8 rfl) ?_
  refine u_sld hv.2.1 (eL_3 9 rfl) ?_
  refine u_aload0 (eL_3 10 rfl) ?_
  refine u_iload3 (eL_3 11 rfl) ?_
  refine u_iconst (eL_3 12 rfl) zk_iconst_3 ?_
  refine u_iadd (eL_3 13 rfl) ?_
  refine u_sld hv.2.2.1 (eL_3 14 rfl) ?_
  obtain ⟨r, hx', hm', e1, e2, hI'⟩ := hS k hx hm (xs (x3 + 1).toNatClampNeg) (xs (x3 + 2).toNatClampNeg) (xs (x3 + 3).toNatClampNeg) hk hI
  have hB1 := hB k hx hm (Nat.le_of_lt hk) hI
  have hB2 := hB (k + 1) hx' hm' hk hI'
  have hle : zLe hm hm' := ((cX12_head_ok l hm 0 (xs (x3 + 1).toNatClampNeg) (xs (x3 + 2).toNatClampNeg) (xs (x3 + 3).toNatClampNeg)) (zoI (r, hm')) (by rw [e2]; rfl)).1
  refine u_callV (ai := [(xs (x3 + 1).toNatClampNeg), (xs (x3 + 2).toNatClampNeg), (xs (x3 + 3).toNatClampNeg)]) (rest := []) (cv1 := zoI) (cX11_head_ok l hx 0 (xs (x3 + 1).toNatClampNeg) (xs (x3 + 2).toNatClampNeg) (xs (x3 + 3).toNatClampNeg)) e1 hB1.1 (fun _ => rfl) ⟨(by have q1 := hle.1; have q2 := hB2.2.2.1; show zN hx' + zN hm ≤ _; omega), (by have q1 := hle.2.1; have q2 := hB2.2.2.2; show zS hx' + zS hm ≤ _; omega)⟩ rfl (by decide) zcd_X11_head rfl ⟨zw_370, zw_371, zw_372, zw_57⟩ ⟨Nat.le_of_ble_eq_true rfl, Nat.le_of_ble_eq_true rfl⟩ rfl (Nat.le_of_ble_eq_true rfl) (eL_3 15 rfl) ?_
  refine u_aload2 (eL_3 16 rfl) ?_
  refine u_aload0 (eL_3 17 rfl) ?_
  refine u_iload3 (eL_3 18 rfl) ?_
  refine u_iconst (eL_3 19 rfl) zk_iconst_1 ?_
  refine u_iadd (eL_3 20 rfl) ?_
  refine u_sld hv.1 (eL_3 21 rfl) ?_
  refine u_aload0 (eL_3 22 rfl) ?_
  refine u_iload3 (eL_3 23 rfl) ?_
  refine u_iconst (eL_3 24 rfl) zk_iconst_2 ?_
  refine u_iadd (eL_3 25 rfl) ?_
  refine u_sld hv.2.1 (eL_3 26 rfl) ?_
  refine u_aload0 (eL_3 27 rfl) ?_
  refine u_iload3 (eL_3 28 rfl) ?_
  refine u_iconst (eL_3 29 rfl) zk_iconst_3 ?_
  refine u_iadd (eL_3 30 rfl) ?_
  refine u_sld hv.2.2.1 (eL_3 31 rfl) ?_
  refine u_swap ?_
  refine u_callV (ai := [(xs (x3 + 1).toNatClampNeg), (xs (x3 + 2).toNatClampNeg), (xs (x3 + 3).toNatClampNeg)]) (rest := [.int r]) (cv1 := zoI) (cX12_head_ok l hm 0 (xs (x3 + 1).toNatClampNeg) (xs (x3 + 2).toNatClampNeg) (xs (x3 + 3).toNatClampNeg)) e2 hB1.2.1 (fun _ => rfl) ⟨(by have q2 := hB2.2.2.1; show zN hm' + zN hx' ≤ _; omega), (by have q2 := hB2.2.2.2; show zS hm' + zS hx' ≤ _; omega)⟩ rfl (by decide) zcd_X12_head rfl ⟨zw_1266, zw_1267, zw_1268, zw_62⟩ ⟨Nat.le_of_ble_eq_true rfl, Nat.le_of_ble_eq_true rfl⟩ rfl (Nat.le_of_ble_eq_true rfl) (eL_3 32 rfl) ?_
  refine u_swap ?_
  exact u_eqT (eL_3 33 rfl) (t := 1905) (by decide) (K _ _ hI')
theorem lc_entry {p : Program} {l : Launch} {e : Env} {s : State} {m : MethodId} {below : List Frame} {meth : Method} {c : Code} {b L : Nat} {xs : Nat → Int32} {D : va_G} {cA : Nat → ClassId} {la lb : Nat} {x3 : Int32} {Inv : Nat → Zh → Zh → Prop} (hS : zS_entry Inv) (hB : zBd Inv) {k : Nat} {hx hm : Zh} (hk : k < 512) (hv : zvi x3 L) (hI : Inv k hx hm) (K : ∀ hx' hm', Inv (k + 1) hx' hm' → U p l e s m below meth c b L xs D cA la lb x3 la lb 1905 [] hx' hm') : U p l e s m below meth c b L xs D cA la lb x3 la lb 426 [] hx hm := by
  refine u_aload1 (eL_3 36 rfl) ?_
  refine u_aload0 (eL_3 37 rfl) ?_
  refine u_iload3 (eL_3 38 rfl) ?_
  refine u_iconst (eL_3 39 rfl) zk_iconst_1 ?_
  refine u_iadd (eL_3 40 rfl) ?_
  refine u_sld hv.1 (eL_3 41 rfl) ?_
  refine u_aload0 (eL_3 42 rfl) ?_
  refine u_iload3 (eL_3 43 rfl) ?_
  refine u_iconst (eL_3 44 rfl) zk_iconst_2 ?_
  refine u_iadd (eL_3 45 rfl) ?_
  refine u_sld hv.2.1 (eL_3 46 rfl) ?_
  refine u_aload0 (eL_3 47 rfl) ?_
  refine u_iload3 (eL_3 48 rfl) ?_
  refine u_iconst (eL_3 49 rfl) zk_iconst_3 ?_
  refine u_iadd (eL_4 0 rfl) ?_
  refine u_sld hv.2.2.1 (eL_4 1 rfl) ?_
  refine u_aload0 (eL_4 2 rfl) ?_
  refine u_iload3 (eL_4 3 rfl) ?_
  refine u_iconst (eL_4 4 rfl) zk_iconst_4 ?_
  refine u_iadd (eL_4 5 rfl) ?_
  refine u_sld hv.2.2.2.1 (eL_4 6 rfl) ?_
  obtain ⟨r, hx', hm', e1, e2, hI'⟩ := hS k hx hm (xs (x3 + 1).toNatClampNeg) (xs (x3 + 2).toNatClampNeg) (xs (x3 + 3).toNatClampNeg) (xs (x3 + 4).toNatClampNeg) hk hI
  have hB1 := hB k hx hm (Nat.le_of_lt hk) hI
  have hB2 := hB (k + 1) hx' hm' hk hI'
  have hle : zLe hm hm' := ((cX12_entry_ok l hm 0 (xs (x3 + 1).toNatClampNeg) (xs (x3 + 2).toNatClampNeg) (xs (x3 + 3).toNatClampNeg) (xs (x3 + 4).toNatClampNeg)) (zoJ (r, hm')) (by rw [e2]; rfl)).1
  refine u_callV (ai := [(xs (x3 + 1).toNatClampNeg), (xs (x3 + 2).toNatClampNeg), (xs (x3 + 3).toNatClampNeg), (xs (x3 + 4).toNatClampNeg)]) (rest := []) (cv1 := zoJ) (cX11_entry_ok l hx 0 (xs (x3 + 1).toNatClampNeg) (xs (x3 + 2).toNatClampNeg) (xs (x3 + 3).toNatClampNeg) (xs (x3 + 4).toNatClampNeg)) e1 hB1.1 (fun _ => rfl) ⟨(by have q1 := hle.1; have q2 := hB2.2.2.1; show zN hx' + zN hm ≤ _; omega), (by have q1 := hle.2.1; have q2 := hB2.2.2.2; show zS hx' + zS hm ≤ _; omega)⟩ rfl (by decide) zcd_X11_entry rfl ⟨zw_378, zw_379, zw_380, zw_57⟩ ⟨Nat.le_of_ble_eq_true rfl, Nat.le_of_ble_eq_true rfl⟩ rfl (Nat.le_of_ble_eq_true rfl) (eL_4 7 rfl) ?_
  refine u_aload2 (eL_4 8 rfl) ?_
  refine u_aload0 (eL_4 9 rfl) ?_
  refine u_iload3 (eL_4 10 rfl) ?_
  refine u_iconst (eL_4 11 rfl) zk_iconst_1 ?_
  refine u_iadd (eL_4 12 rfl) ?_
  refine u_sld hv.1 (eL_4 13 rfl) ?_
  refine u_aload0 (eL_4 14 rfl) ?_
  refine u_iload3 (eL_4 15 rfl) ?_
  refine u_iconst (eL_4 16 rfl) zk_iconst_2 ?_
  refine u_iadd (eL_4 17 rfl) ?_
  refine u_sld hv.2.1 (eL_4 18 rfl) ?_
  refine u_aload0 (eL_4 19 rfl) ?_
  refine u_iload3 (eL_4 20 rfl) ?_
  refine u_iconst (eL_4 21 rfl) zk_iconst_3 ?_
  refine u_iadd (eL_4 22 rfl) ?_
  refine u_sld hv.2.2.1 (eL_4 23 rfl) ?_
  refine u_aload0 (eL_4 24 rfl) ?_
  refine u_iload3 (eL_4 25 rfl) ?_
  refine u_iconst (eL_4 26 rfl) zk_iconst_4 ?_
  refine u_iadd (eL_4 27 rfl) ?_
  refine u_sld hv.2.2.2.1 (eL_4 28 rfl) ?_
  refine u_swap ?_
  refine u_callV (ai := [(xs (x3 + 1).toNatClampNeg), (xs (x3 + 2).toNatClampNeg), (xs (x3 + 3).toNatClampNeg), (xs (x3 + 4).toNatClampNeg)]) (rest := [.long r]) (cv1 := zoJ) (cX12_entry_ok l hm 0 (xs (x3 + 1).toNatClampNeg) (xs (x3 + 2).toNatClampNeg) (xs (x3 + 3).toNatClampNeg) (xs (x3 + 4).toNatClampNeg)) e2 hB1.2.1 (fun _ => rfl) ⟨(by have q2 := hB2.2.2.1; show zN hm' + zN hx' ≤ _; omega), (by have q2 := hB2.2.2.2; show zS hm' + zS hx' ≤ _; omega)⟩ rfl (by decide) zcd_X12_entry rfl ⟨zw_1270, zw_1271, zw_1272, zw_62⟩ ⟨Nat.le_of_ble_eq_true rfl, Nat.le_of_ble_eq_true rfl⟩ rfl (Nat.le_of_ble_eq_true rfl) (eL_4 29 rfl) ?_
  refine u_swap ?_
  exact u_lcmpT (eL_4 30 rfl) (eL_4 31 rfl) (t := 1905) (by decide) (K _ _ hI')
theorem lc_poly {p : Program} {l : Launch} {e : Env} {s : State} {m : MethodId} {below : List Frame} {meth : Method} {c : Code} {b L : Nat} {xs : Nat → Int32} {D : va_G} {cA : Nat → ClassId} {la lb : Nat} {x3 : Int32} {Inv : Nat → Zh → Zh → Prop} (hS : zS_poly Inv) (hB : zBd Inv) {k : Nat} {hx hm : Zh} (hk : k < 512) (hv : zvi x3 L) (hI : Inv k hx hm) (K : ∀ hx' hm', Inv (k + 1) hx' hm' → U p l e s m below meth c b L xs D cA la lb x3 la lb 1905 [] hx' hm') : U p l e s m below meth c b L xs D cA la lb x3 la lb 480 [] hx hm := by
  refine u_aload1 (eL_4 34 rfl) ?_
  refine u_aload0 (eL_4 35 rfl) ?_
  refine u_iload3 (eL_4 36 rfl) ?_
  refine u_iconst (eL_4 37 rfl) zk_iconst_1 ?_
  refine u_iadd (eL_4 38 rfl) ?_
  refine u_sld hv.1 (eL_4 39 rfl) ?_
  refine u_aload0 (eL_4 40 rfl) ?_
  refine u_iload3 (eL_4 41 rfl) ?_
  refine u_iconst (eL_4 42 rfl) zk_iconst_2 ?_
  refine u_iadd (eL_4 43 rfl) ?_
  refine u_sld hv.2.1 (eL_4 44 rfl) ?_
  refine u_aload0 (eL_4 45 rfl) ?_
  refine u_iload3 (eL_4 46 rfl) ?_
  refine u_iconst (eL_4 47 rfl) zk_iconst_3 ?_
  refine u_iadd (eL_4 48 rfl) ?_
  refine u_sld hv.2.2.1 (eL_4 49 rfl) ?_
  obtain ⟨r, hx', hm', e1, e2, hI'⟩ := hS k hx hm (xs (x3 + 1).toNatClampNeg) (xs (x3 + 2).toNatClampNeg) (xs (x3 + 3).toNatClampNeg) hk hI
  have hB1 := hB k hx hm (Nat.le_of_lt hk) hI
  have hB2 := hB (k + 1) hx' hm' hk hI'
  have hle : zLe hm hm' := ((cX12_poly_ok l hm 0 (xs (x3 + 1).toNatClampNeg) (xs (x3 + 2).toNatClampNeg) (xs (x3 + 3).toNatClampNeg)) (zoJ (r, hm')) (by rw [e2]; rfl)).1
  refine u_callV (ai := [(xs (x3 + 1).toNatClampNeg), (xs (x3 + 2).toNatClampNeg), (xs (x3 + 3).toNatClampNeg)]) (rest := []) (cv1 := zoJ) (cX11_poly_ok l hx 0 (xs (x3 + 1).toNatClampNeg) (xs (x3 + 2).toNatClampNeg) (xs (x3 + 3).toNatClampNeg)) e1 hB1.1 (fun _ => rfl) ⟨(by have q1 := hle.1; have q2 := hB2.2.2.1; show zN hx' + zN hm ≤ _; omega), (by have q1 := hle.2.1; have q2 := hB2.2.2.2; show zS hx' + zS hm ≤ _; omega)⟩ rfl (by decide) zcd_X11_poly rfl ⟨zw_409, zw_410, zw_411, zw_57⟩ ⟨Nat.le_of_ble_eq_true rfl, Nat.le_of_ble_eq_true rfl⟩ rfl (Nat.le_of_ble_eq_true rfl) (eL_5 0 rfl) ?_
  refine u_aload2 (eL_5 1 rfl) ?_
  refine u_aload0 (eL_5 2 rfl) ?_
  refine u_iload3 (eL_5 3 rfl) ?_
  refine u_iconst (eL_5 4 rfl) zk_iconst_1 ?_
  refine u_iadd (eL_5 5 rfl) ?_
  refine u_sld hv.1 (eL_5 6 rfl) ?_
  refine u_aload0 (eL_5 7 rfl) ?_
  refine u_iload3 (eL_5 8 rfl) ?_
  refine u_iconst (eL_5 9 rfl) zk_iconst_2 ?_
  refine u_iadd (eL_5 10 rfl) ?_
  refine u_sld hv.2.1 (eL_5 11 rfl) ?_
  refine u_aload0 (eL_5 12 rfl) ?_
  refine u_iload3 (eL_5 13 rfl) ?_
  refine u_iconst (eL_5 14 rfl) zk_iconst_3 ?_
  refine u_iadd (eL_5 15 rfl) ?_
  refine u_sld hv.2.2.1 (eL_5 16 rfl) ?_
  refine u_swap ?_
  refine u_callV (ai := [(xs (x3 + 1).toNatClampNeg), (xs (x3 + 2).toNatClampNeg), (xs (x3 + 3).toNatClampNeg)]) (rest := [.long r]) (cv1 := zoJ) (cX12_poly_ok l hm 0 (xs (x3 + 1).toNatClampNeg) (xs (x3 + 2).toNatClampNeg) (xs (x3 + 3).toNatClampNeg)) e2 hB1.2.1 (fun _ => rfl) ⟨(by have q2 := hB2.2.2.1; show zN hm' + zN hx' ≤ _; omega), (by have q2 := hB2.2.2.2; show zS hm' + zS hx' ≤ _; omega)⟩ rfl (by decide) zcd_X12_poly rfl ⟨zw_1282, zw_1283, zw_1284, zw_62⟩ ⟨Nat.le_of_ble_eq_true rfl, Nat.le_of_ble_eq_true rfl⟩ rfl (Nat.le_of_ble_eq_true rfl) (eL_5 17 rfl) ?_
  refine u_swap ?_
  exact u_lcmpT (eL_5 18 rfl) (eL_5 19 rfl) (t := 1905) (by decide) (K _ _ hI')
theorem lc_above {p : Program} {l : Launch} {e : Env} {s : State} {m : MethodId} {below : List Frame} {meth : Method} {c : Code} {b L : Nat} {xs : Nat → Int32} {D : va_G} {cA : Nat → ClassId} {la lb : Nat} {x3 : Int32} {Inv : Nat → Zh → Zh → Prop} (hS : zS_above Inv) (hB : zBd Inv) {k : Nat} {hx hm : Zh} (hk : k < 512) (hv : zvi x3 L) (hI : Inv k hx hm) (K : ∀ hx' hm', Inv (k + 1) hx' hm' → U p l e s m below meth c b L xs D cA la lb x3 la lb 1905 [] hx' hm') : U p l e s m below meth c b L xs D cA la lb x3 la lb 524 [] hx hm := by
  refine u_aload1 (eL_5 22 rfl) ?_
  refine u_aload0 (eL_5 23 rfl) ?_
  refine u_iload3 (eL_5 24 rfl) ?_
  refine u_iconst (eL_5 25 rfl) zk_iconst_1 ?_
  refine u_iadd (eL_5 26 rfl) ?_
  refine u_sld hv.1 (eL_5 27 rfl) ?_
  refine u_aload0 (eL_5 28 rfl) ?_
  refine u_iload3 (eL_5 29 rfl) ?_
  refine u_iconst (eL_5 30 rfl) zk_iconst_2 ?_
  refine u_iadd (eL_5 31 rfl) ?_
  refine u_sld hv.2.1 (eL_5 32 rfl) ?_
  refine u_aload0 (eL_5 33 rfl) ?_
  refine u_iload3 (eL_5 34 rfl) ?_
  refine u_iconst (eL_5 35 rfl) zk_iconst_3 ?_
  refine u_iadd (eL_5 36 rfl) ?_
  refine u_sld hv.2.2.1 (eL_5 37 rfl) ?_
  obtain ⟨r, hx', hm', e1, e2, hI'⟩ := hS k hx hm (xs (x3 + 1).toNatClampNeg) (xs (x3 + 2).toNatClampNeg) (xs (x3 + 3).toNatClampNeg) hk hI
  have hB1 := hB k hx hm (Nat.le_of_lt hk) hI
  have hB2 := hB (k + 1) hx' hm' hk hI'
  have hle : zLe hm hm' := ((cX12_above_ok l hm 0 (xs (x3 + 1).toNatClampNeg) (xs (x3 + 2).toNatClampNeg) (xs (x3 + 3).toNatClampNeg)) (zoI (r, hm')) (by rw [e2]; rfl)).1
  refine u_callV (ai := [(xs (x3 + 1).toNatClampNeg), (xs (x3 + 2).toNatClampNeg), (xs (x3 + 3).toNatClampNeg)]) (rest := []) (cv1 := zoI) (cX11_above_ok l hx 0 (xs (x3 + 1).toNatClampNeg) (xs (x3 + 2).toNatClampNeg) (xs (x3 + 3).toNatClampNeg)) e1 hB1.1 (fun _ => rfl) ⟨(by have q1 := hle.1; have q2 := hB2.2.2.1; show zN hx' + zN hm ≤ _; omega), (by have q1 := hle.2.1; have q2 := hB2.2.2.2; show zS hx' + zS hm ≤ _; omega)⟩ rfl (by decide) zcd_X11_above rfl ⟨zw_413, zw_414, zw_415, zw_57⟩ ⟨Nat.le_of_ble_eq_true rfl, Nat.le_of_ble_eq_true rfl⟩ rfl (Nat.le_of_ble_eq_true rfl) (eL_5 38 rfl) ?_
  refine u_aload2 (eL_5 39 rfl) ?_
  refine u_aload0 (eL_5 40 rfl) ?_
  refine u_iload3 (eL_5 41 rfl) ?_
  refine u_iconst (eL_5 42 rfl) zk_iconst_1 ?_
  refine u_iadd (eL_5 43 rfl) ?_
  refine u_sld hv.1 (eL_5 44 rfl) ?_
  refine u_aload0 (eL_5 45 rfl) ?_
  refine u_iload3 (eL_5 46 rfl) ?_
  refine u_iconst (eL_5 47 rfl) zk_iconst_2 ?_
  refine u_iadd (eL_5 48 rfl) ?_
  refine u_sld hv.2.1 (eL_5 49 rfl) ?_
  refine u_aload0 (eL_6 0 rfl) ?_
  refine u_iload3 (eL_6 1 rfl) ?_
  refine u_iconst (eL_6 2 rfl) zk_iconst_3 ?_
  refine u_iadd (eL_6 3 rfl) ?_
  refine u_sld hv.2.2.1 (eL_6 4 rfl) ?_
  refine u_swap ?_
  refine u_callV (ai := [(xs (x3 + 1).toNatClampNeg), (xs (x3 + 2).toNatClampNeg), (xs (x3 + 3).toNatClampNeg)]) (rest := [.int r]) (cv1 := zoI) (cX12_above_ok l hm 0 (xs (x3 + 1).toNatClampNeg) (xs (x3 + 2).toNatClampNeg) (xs (x3 + 3).toNatClampNeg)) e2 hB1.2.1 (fun _ => rfl) ⟨(by have q2 := hB2.2.2.1; show zN hm' + zN hx' ≤ _; omega), (by have q2 := hB2.2.2.2; show zS hm' + zS hx' ≤ _; omega)⟩ rfl (by decide) zcd_X12_above rfl ⟨zw_1302, zw_1303, zw_1304, zw_62⟩ ⟨Nat.le_of_ble_eq_true rfl, Nat.le_of_ble_eq_true rfl⟩ rfl (Nat.le_of_ble_eq_true rfl) (eL_6 5 rfl) ?_
  refine u_swap ?_
  exact u_eqT (eL_6 6 rfl) (t := 1905) (by decide) (K _ _ hI')
theorem lc_often {p : Program} {l : Launch} {e : Env} {s : State} {m : MethodId} {below : List Frame} {meth : Method} {c : Code} {b L : Nat} {xs : Nat → Int32} {D : va_G} {cA : Nat → ClassId} {la lb : Nat} {x3 : Int32} {Inv : Nat → Zh → Zh → Prop} (hS : zS_often Inv) (hB : zBd Inv) {k : Nat} {hx hm : Zh} (hk : k < 512) (hv : zvi x3 L) (hI : Inv k hx hm) (K : ∀ hx' hm', Inv (k + 1) hx' hm' → U p l e s m below meth c b L xs D cA la lb x3 la lb 1905 [] hx' hm') : U p l e s m below meth c b L xs D cA la lb x3 la lb 567 [] hx hm := by
  refine u_aload1 (eL_6 9 rfl) ?_
  refine u_aload0 (eL_6 10 rfl) ?_
  refine u_iload3 (eL_6 11 rfl) ?_
  refine u_iconst (eL_6 12 rfl) zk_iconst_1 ?_
  refine u_iadd (eL_6 13 rfl) ?_
  refine u_sld hv.1 (eL_6 14 rfl) ?_
  refine u_aload0 (eL_6 15 rfl) ?_
  refine u_iload3 (eL_6 16 rfl) ?_
  refine u_iconst (eL_6 17 rfl) zk_iconst_2 ?_
  refine u_iadd (eL_6 18 rfl) ?_
  refine u_sld hv.2.1 (eL_6 19 rfl) ?_
  refine u_aload0 (eL_6 20 rfl) ?_
  refine u_iload3 (eL_6 21 rfl) ?_
  refine u_iconst (eL_6 22 rfl) zk_iconst_3 ?_
  refine u_iadd (eL_6 23 rfl) ?_
  refine u_sld hv.2.2.1 (eL_6 24 rfl) ?_
  obtain ⟨r, hx', hm', e1, e2, hI'⟩ := hS k hx hm (xs (x3 + 1).toNatClampNeg) (xs (x3 + 2).toNatClampNeg) (xs (x3 + 3).toNatClampNeg) hk hI
  have hB1 := hB k hx hm (Nat.le_of_lt hk) hI
  have hB2 := hB (k + 1) hx' hm' hk hI'
  have hle : zLe hm hm' := ((cX12_often_ok l hm 0 (xs (x3 + 1).toNatClampNeg) (xs (x3 + 2).toNatClampNeg) (xs (x3 + 3).toNatClampNeg)) (zoI (r, hm')) (by rw [e2]; rfl)).1
  refine u_callV (ai := [(xs (x3 + 1).toNatClampNeg), (xs (x3 + 2).toNatClampNeg), (xs (x3 + 3).toNatClampNeg)]) (rest := []) (cv1 := zoI) (cX11_often_ok l hx 0 (xs (x3 + 1).toNatClampNeg) (xs (x3 + 2).toNatClampNeg) (xs (x3 + 3).toNatClampNeg)) e1 hB1.1 (fun _ => rfl) ⟨(by have q1 := hle.1; have q2 := hB2.2.2.1; show zN hx' + zN hm ≤ _; omega), (by have q1 := hle.2.1; have q2 := hB2.2.2.2; show zS hx' + zS hm ≤ _; omega)⟩ rfl (by decide) zcd_X11_often rfl ⟨zw_428, zw_429, zw_430, zw_57⟩ ⟨Nat.le_of_ble_eq_true rfl, Nat.le_of_ble_eq_true rfl⟩ rfl (Nat.le_of_ble_eq_true rfl) (eL_6 25 rfl) ?_
  refine u_aload2 (eL_6 26 rfl) ?_
  refine u_aload0 (eL_6 27 rfl) ?_
  refine u_iload3 (eL_6 28 rfl) ?_
  refine u_iconst (eL_6 29 rfl) zk_iconst_1 ?_
  refine u_iadd (eL_6 30 rfl) ?_
  refine u_sld hv.1 (eL_6 31 rfl) ?_
  refine u_aload0 (eL_6 32 rfl) ?_
  refine u_iload3 (eL_6 33 rfl) ?_
  refine u_iconst (eL_6 34 rfl) zk_iconst_2 ?_
  refine u_iadd (eL_6 35 rfl) ?_
  refine u_sld hv.2.1 (eL_6 36 rfl) ?_
  refine u_aload0 (eL_6 37 rfl) ?_
  refine u_iload3 (eL_6 38 rfl) ?_
  refine u_iconst (eL_6 39 rfl) zk_iconst_3 ?_
  refine u_iadd (eL_6 40 rfl) ?_
  refine u_sld hv.2.2.1 (eL_6 41 rfl) ?_
  refine u_swap ?_
  refine u_callV (ai := [(xs (x3 + 1).toNatClampNeg), (xs (x3 + 2).toNatClampNeg), (xs (x3 + 3).toNatClampNeg)]) (rest := [.int r]) (cv1 := zoI) (cX12_often_ok l hm 0 (xs (x3 + 1).toNatClampNeg) (xs (x3 + 2).toNatClampNeg) (xs (x3 + 3).toNatClampNeg)) e2 hB1.2.1 (fun _ => rfl) ⟨(by have q2 := hB2.2.2.1; show zN hm' + zN hx' ≤ _; omega), (by have q2 := hB2.2.2.2; show zS hm' + zS hx' ≤ _; omega)⟩ rfl (by decide) zcd_X12_often rfl ⟨zw_1317, zw_1318, zw_1319, zw_62⟩ ⟨Nat.le_of_ble_eq_true rfl, Nat.le_of_ble_eq_true rfl⟩ rfl (Nat.le_of_ble_eq_true rfl) (eL_6 42 rfl) ?_
  refine u_swap ?_
  exact u_eqT (eL_6 43 rfl) (t := 1905) (by decide) (K _ _ hI')
theorem lc_whole {p : Program} {l : Launch} {e : Env} {s : State} {m : MethodId} {below : List Frame} {meth : Method} {c : Code} {b L : Nat} {xs : Nat → Int32} {D : va_G} {cA : Nat → ClassId} {la lb : Nat} {x3 : Int32} {Inv : Nat → Zh → Zh → Prop} (hS : zS_whole Inv) (hB : zBd Inv) {k : Nat} {hx hm : Zh} (hk : k < 512) (hv : zvi x3 L) (hI : Inv k hx hm) (K : ∀ hx' hm', Inv (k + 1) hx' hm' → U p l e s m below meth c b L xs D cA la lb x3 la lb 1905 [] hx' hm') : U p l e s m below meth c b L xs D cA la lb x3 la lb 610 [] hx hm := by
  refine u_aload1 (eL_6 46 rfl) ?_
  refine u_aload0 (eL_6 47 rfl) ?_
  refine u_iload3 (eL_6 48 rfl) ?_
  refine u_iconst (eL_6 49 rfl) zk_iconst_1 ?_
  refine u_iadd (eL_7 0 rfl) ?_
  refine u_sld hv.1 (eL_7 1 rfl) ?_
  refine u_aload0 (eL_7 2 rfl) ?_
  refine u_iload3 (eL_7 3 rfl) ?_
  refine u_iconst (eL_7 4 rfl) zk_iconst_2 ?_
  refine u_iadd (eL_7 5 rfl) ?_
  refine u_sld hv.2.1 (eL_7 6 rfl) ?_
  obtain ⟨r, hx', hm', e1, e2, hI'⟩ := hS k hx hm (xs (x3 + 1).toNatClampNeg) (xs (x3 + 2).toNatClampNeg) hk hI
  have hB1 := hB k hx hm (Nat.le_of_lt hk) hI
  have hB2 := hB (k + 1) hx' hm' hk hI'
  have hle : zLe hm hm' := ((cX12_whole_ok l hm 0 (xs (x3 + 1).toNatClampNeg) (xs (x3 + 2).toNatClampNeg)) (zoI (r, hm')) (by rw [e2]; rfl)).1
  refine u_callV (ai := [(xs (x3 + 1).toNatClampNeg), (xs (x3 + 2).toNatClampNeg)]) (rest := []) (cv1 := zoI) (cX11_whole_ok l hx 0 (xs (x3 + 1).toNatClampNeg) (xs (x3 + 2).toNatClampNeg)) e1 hB1.1 (fun _ => rfl) ⟨(by have q1 := hle.1; have q2 := hB2.2.2.1; show zN hx' + zN hm ≤ _; omega), (by have q1 := hle.2.1; have q2 := hB2.2.2.2; show zS hx' + zS hm ≤ _; omega)⟩ rfl (by decide) zcd_X11_whole rfl ⟨zw_436, zw_437, zw_438, zw_57⟩ ⟨Nat.le_of_ble_eq_true rfl, Nat.le_of_ble_eq_true rfl⟩ rfl (Nat.le_of_ble_eq_true rfl) (eL_7 7 rfl) ?_
  refine u_aload2 (eL_7 8 rfl) ?_
  refine u_aload0 (eL_7 9 rfl) ?_
  refine u_iload3 (eL_7 10 rfl) ?_
  refine u_iconst (eL_7 11 rfl) zk_iconst_1 ?_
  refine u_iadd (eL_7 12 rfl) ?_
  refine u_sld hv.1 (eL_7 13 rfl) ?_
  refine u_aload0 (eL_7 14 rfl) ?_
  refine u_iload3 (eL_7 15 rfl) ?_
  refine u_iconst (eL_7 16 rfl) zk_iconst_2 ?_
  refine u_iadd (eL_7 17 rfl) ?_
  refine u_sld hv.2.1 (eL_7 18 rfl) ?_
  refine u_swap ?_
  refine u_callV (ai := [(xs (x3 + 1).toNatClampNeg), (xs (x3 + 2).toNatClampNeg)]) (rest := [.int r]) (cv1 := zoI) (cX12_whole_ok l hm 0 (xs (x3 + 1).toNatClampNeg) (xs (x3 + 2).toNatClampNeg)) e2 hB1.2.1 (fun _ => rfl) ⟨(by have q2 := hB2.2.2.1; show zN hm' + zN hx' ≤ _; omega), (by have q2 := hB2.2.2.2; show zS hm' + zS hx' ≤ _; omega)⟩ rfl (by decide) zcd_X12_whole rfl ⟨zw_1325, zw_1326, zw_1327, zw_62⟩ ⟨Nat.le_of_ble_eq_true rfl, Nat.le_of_ble_eq_true rfl⟩ rfl (Nat.le_of_ble_eq_true rfl) (eL_7 19 rfl) ?_
  refine u_swap ?_
  exact u_eqT (eL_7 20 rfl) (t := 1905) (by decide) (K _ _ hI')
theorem lc_power {p : Program} {l : Launch} {e : Env} {s : State} {m : MethodId} {below : List Frame} {meth : Method} {c : Code} {b L : Nat} {xs : Nat → Int32} {D : va_G} {cA : Nat → ClassId} {la lb : Nat} {x3 : Int32} {Inv : Nat → Zh → Zh → Prop} (hS : zS_power Inv) (hB : zBd Inv) {k : Nat} {hx hm : Zh} (hk : k < 512) (hv : zvi x3 L) (hI : Inv k hx hm) (K : ∀ hx' hm', Inv (k + 1) hx' hm' → U p l e s m below meth c b L xs D cA la lb x3 la lb 1905 [] hx' hm') : U p l e s m below meth c b L xs D cA la lb x3 la lb 643 [] hx hm := by
  refine u_aload1 (eL_7 23 rfl) ?_
  refine u_aload0 (eL_7 24 rfl) ?_
  refine u_iload3 (eL_7 25 rfl) ?_
  refine u_iconst (eL_7 26 rfl) zk_iconst_1 ?_
  refine u_iadd (eL_7 27 rfl) ?_
  refine u_sld hv.1 (eL_7 28 rfl) ?_
  refine u_aload0 (eL_7 29 rfl) ?_
  refine u_iload3 (eL_7 30 rfl) ?_
  refine u_iconst (eL_7 31 rfl) zk_iconst_2 ?_
  refine u_iadd (eL_7 32 rfl) ?_
  refine u_sld hv.2.1 (eL_7 33 rfl) ?_
  refine u_aload0 (eL_7 34 rfl) ?_
  refine u_iload3 (eL_7 35 rfl) ?_
  refine u_iconst (eL_7 36 rfl) zk_iconst_3 ?_
  refine u_iadd (eL_7 37 rfl) ?_
  refine u_sld hv.2.2.1 (eL_7 38 rfl) ?_
  obtain ⟨r, hx', hm', e1, e2, hI'⟩ := hS k hx hm (xs (x3 + 1).toNatClampNeg) (xs (x3 + 2).toNatClampNeg) (xs (x3 + 3).toNatClampNeg) hk hI
  have hB1 := hB k hx hm (Nat.le_of_lt hk) hI
  have hB2 := hB (k + 1) hx' hm' hk hI'
  have hle : zLe hm hm' := ((cX12_power_ok l hm 0 (xs (x3 + 1).toNatClampNeg) (xs (x3 + 2).toNatClampNeg) (xs (x3 + 3).toNatClampNeg)) (zoJ (r, hm')) (by rw [e2]; rfl)).1
  refine u_callV (ai := [(xs (x3 + 1).toNatClampNeg), (xs (x3 + 2).toNatClampNeg), (xs (x3 + 3).toNatClampNeg)]) (rest := []) (cv1 := zoJ) (cX11_power_ok l hx 0 (xs (x3 + 1).toNatClampNeg) (xs (x3 + 2).toNatClampNeg) (xs (x3 + 3).toNatClampNeg)) e1 hB1.1 (fun _ => rfl) ⟨(by have q1 := hle.1; have q2 := hB2.2.2.1; show zN hx' + zN hm ≤ _; omega), (by have q1 := hle.2.1; have q2 := hB2.2.2.2; show zS hx' + zS hm ≤ _; omega)⟩ rfl (by decide) zcd_X11_power rfl ⟨zw_449, zw_450, zw_451, zw_57⟩ ⟨Nat.le_of_ble_eq_true rfl, Nat.le_of_ble_eq_true rfl⟩ rfl (Nat.le_of_ble_eq_true rfl) (eL_7 39 rfl) ?_
  refine u_aload2 (eL_7 40 rfl) ?_
  refine u_aload0 (eL_7 41 rfl) ?_
  refine u_iload3 (eL_7 42 rfl) ?_
  refine u_iconst (eL_7 43 rfl) zk_iconst_1 ?_
  refine u_iadd (eL_7 44 rfl) ?_
  refine u_sld hv.1 (eL_7 45 rfl) ?_
  refine u_aload0 (eL_7 46 rfl) ?_
  refine u_iload3 (eL_7 47 rfl) ?_
  refine u_iconst (eL_7 48 rfl) zk_iconst_2 ?_
  refine u_iadd (eL_7 49 rfl) ?_
  refine u_sld hv.2.1 (eL_8 0 rfl) ?_
  refine u_aload0 (eL_8 1 rfl) ?_
  refine u_iload3 (eL_8 2 rfl) ?_
  refine u_iconst (eL_8 3 rfl) zk_iconst_3 ?_
  refine u_iadd (eL_8 4 rfl) ?_
  refine u_sld hv.2.2.1 (eL_8 5 rfl) ?_
  refine u_swap ?_
  refine u_callV (ai := [(xs (x3 + 1).toNatClampNeg), (xs (x3 + 2).toNatClampNeg), (xs (x3 + 3).toNatClampNeg)]) (rest := [.long r]) (cv1 := zoJ) (cX12_power_ok l hm 0 (xs (x3 + 1).toNatClampNeg) (xs (x3 + 2).toNatClampNeg) (xs (x3 + 3).toNatClampNeg)) e2 hB1.2.1 (fun _ => rfl) ⟨(by have q2 := hB2.2.2.1; show zN hm' + zN hx' ≤ _; omega), (by have q2 := hB2.2.2.2; show zS hm' + zS hx' ≤ _; omega)⟩ rfl (by decide) zcd_X12_power rfl ⟨zw_1329, zw_1330, zw_1331, zw_62⟩ ⟨Nat.le_of_ble_eq_true rfl, Nat.le_of_ble_eq_true rfl⟩ rfl (Nat.le_of_ble_eq_true rfl) (eL_8 6 rfl) ?_
  refine u_swap ?_
  exact u_lcmpT (eL_8 7 rfl) (eL_8 8 rfl) (t := 1905) (by decide) (K _ _ hI')
theorem lc_powerOf {p : Program} {l : Launch} {e : Env} {s : State} {m : MethodId} {below : List Frame} {meth : Method} {c : Code} {b L : Nat} {xs : Nat → Int32} {D : va_G} {cA : Nat → ClassId} {la lb : Nat} {x3 : Int32} {Inv : Nat → Zh → Zh → Prop} (hS : zS_powerOf Inv) (hB : zBd Inv) {k : Nat} {hx hm : Zh} (hk : k < 512) (hv : zvi x3 L) (hI : Inv k hx hm) (K : ∀ hx' hm', Inv (k + 1) hx' hm' → U p l e s m below meth c b L xs D cA la lb x3 la lb 1905 [] hx' hm') : U p l e s m below meth c b L xs D cA la lb x3 la lb 687 [] hx hm := by
  refine u_aload1 (eL_8 11 rfl) ?_
  refine u_aload0 (eL_8 12 rfl) ?_
  refine u_iload3 (eL_8 13 rfl) ?_
  refine u_iconst (eL_8 14 rfl) zk_iconst_1 ?_
  refine u_iadd (eL_8 15 rfl) ?_
  refine u_sld hv.1 (eL_8 16 rfl) ?_
  refine u_aload0 (eL_8 17 rfl) ?_
  refine u_iload3 (eL_8 18 rfl) ?_
  refine u_iconst (eL_8 19 rfl) zk_iconst_2 ?_
  refine u_iadd (eL_8 20 rfl) ?_
  refine u_sld hv.2.1 (eL_8 21 rfl) ?_
  obtain ⟨r, hx', hm', e1, e2, hI'⟩ := hS k hx hm (xs (x3 + 1).toNatClampNeg) (xs (x3 + 2).toNatClampNeg) hk hI
  have hB1 := hB k hx hm (Nat.le_of_lt hk) hI
  have hB2 := hB (k + 1) hx' hm' hk hI'
  have hle : zLe hm hm' := ((cX12_powerOf_ok l hm 0 (xs (x3 + 1).toNatClampNeg) (xs (x3 + 2).toNatClampNeg)) (zoJ (r, hm')) (by rw [e2]; rfl)).1
  refine u_callV (ai := [(xs (x3 + 1).toNatClampNeg), (xs (x3 + 2).toNatClampNeg)]) (rest := []) (cv1 := zoJ) (cX11_powerOf_ok l hx 0 (xs (x3 + 1).toNatClampNeg) (xs (x3 + 2).toNatClampNeg)) e1 hB1.1 (fun _ => rfl) ⟨(by have q1 := hle.1; have q2 := hB2.2.2.1; show zN hx' + zN hm ≤ _; omega), (by have q1 := hle.2.1; have q2 := hB2.2.2.2; show zS hx' + zS hm ≤ _; omega)⟩ rfl (by decide) zcd_X11_powerOf rfl ⟨zw_461, zw_462, zw_463, zw_57⟩ ⟨Nat.le_of_ble_eq_true rfl, Nat.le_of_ble_eq_true rfl⟩ rfl (Nat.le_of_ble_eq_true rfl) (eL_8 22 rfl) ?_
  refine u_aload2 (eL_8 23 rfl) ?_
  refine u_aload0 (eL_8 24 rfl) ?_
  refine u_iload3 (eL_8 25 rfl) ?_
  refine u_iconst (eL_8 26 rfl) zk_iconst_1 ?_
  refine u_iadd (eL_8 27 rfl) ?_
  refine u_sld hv.1 (eL_8 28 rfl) ?_
  refine u_aload0 (eL_8 29 rfl) ?_
  refine u_iload3 (eL_8 30 rfl) ?_
  refine u_iconst (eL_8 31 rfl) zk_iconst_2 ?_
  refine u_iadd (eL_8 32 rfl) ?_
  refine u_sld hv.2.1 (eL_8 33 rfl) ?_
  refine u_swap ?_
  refine u_callV (ai := [(xs (x3 + 1).toNatClampNeg), (xs (x3 + 2).toNatClampNeg)]) (rest := [.long r]) (cv1 := zoJ) (cX12_powerOf_ok l hm 0 (xs (x3 + 1).toNatClampNeg) (xs (x3 + 2).toNatClampNeg)) e2 hB1.2.1 (fun _ => rfl) ⟨(by have q2 := hB2.2.2.1; show zN hm' + zN hx' ≤ _; omega), (by have q2 := hB2.2.2.2; show zS hm' + zS hx' ≤ _; omega)⟩ rfl (by decide) zcd_X12_powerOf rfl ⟨zw_1333, zw_1334, zw_1335, zw_62⟩ ⟨Nat.le_of_ble_eq_true rfl, Nat.le_of_ble_eq_true rfl⟩ rfl (Nat.le_of_ble_eq_true rfl) (eL_8 34 rfl) ?_
  refine u_swap ?_
  exact u_lcmpT (eL_8 35 rfl) (eL_8 36 rfl) (t := 1905) (by decide) (K _ _ hI')
theorem lc_rest {p : Program} {l : Launch} {e : Env} {s : State} {m : MethodId} {below : List Frame} {meth : Method} {c : Code} {b L : Nat} {xs : Nat → Int32} {D : va_G} {cA : Nat → ClassId} {la lb : Nat} {x3 : Int32} {Inv : Nat → Zh → Zh → Prop} (hS : zS_rest Inv) (hB : zBd Inv) {k : Nat} {hx hm : Zh} (hk : k < 512) (hv : zvi x3 L) (hI : Inv k hx hm) (K : ∀ hx' hm', Inv (k + 1) hx' hm' → U p l e s m below meth c b L xs D cA la lb x3 la lb 1905 [] hx' hm') : U p l e s m below meth c b L xs D cA la lb x3 la lb 721 [] hx hm := by
  refine u_aload1 (eL_8 39 rfl) ?_
  refine u_aload0 (eL_8 40 rfl) ?_
  refine u_iload3 (eL_8 41 rfl) ?_
  refine u_iconst (eL_8 42 rfl) zk_iconst_1 ?_
  refine u_iadd (eL_8 43 rfl) ?_
  refine u_sld hv.1 (eL_8 44 rfl) ?_
  refine u_aload0 (eL_8 45 rfl) ?_
  refine u_iload3 (eL_8 46 rfl) ?_
  refine u_iconst (eL_8 47 rfl) zk_iconst_2 ?_
  refine u_iadd (eL_8 48 rfl) ?_
  refine u_sld hv.2.1 (eL_8 49 rfl) ?_
  refine u_aload0 (eL_9 0 rfl) ?_
  refine u_iload3 (eL_9 1 rfl) ?_
  refine u_iconst (eL_9 2 rfl) zk_iconst_3 ?_
  refine u_iadd (eL_9 3 rfl) ?_
  refine u_sld hv.2.2.1 (eL_9 4 rfl) ?_
  refine u_aload0 (eL_9 5 rfl) ?_
  refine u_iload3 (eL_9 6 rfl) ?_
  refine u_iconst (eL_9 7 rfl) zk_iconst_4 ?_
  refine u_iadd (eL_9 8 rfl) ?_
  refine u_sld hv.2.2.2.1 (eL_9 9 rfl) ?_
  obtain ⟨r, hx', hm', e1, e2, hI'⟩ := hS k hx hm (xs (x3 + 1).toNatClampNeg) (xs (x3 + 2).toNatClampNeg) (xs (x3 + 3).toNatClampNeg) (xs (x3 + 4).toNatClampNeg) hk hI
  have hB1 := hB k hx hm (Nat.le_of_lt hk) hI
  have hB2 := hB (k + 1) hx' hm' hk hI'
  have hle : zLe hm hm' := ((cX12_rest_ok l hm 0 (xs (x3 + 1).toNatClampNeg) (xs (x3 + 2).toNatClampNeg) (xs (x3 + 3).toNatClampNeg) (xs (x3 + 4).toNatClampNeg)) (zoJ (r, hm')) (by rw [e2]; rfl)).1
  refine u_callV (ai := [(xs (x3 + 1).toNatClampNeg), (xs (x3 + 2).toNatClampNeg), (xs (x3 + 3).toNatClampNeg), (xs (x3 + 4).toNatClampNeg)]) (rest := []) (cv1 := zoJ) (cX11_rest_ok l hx 0 (xs (x3 + 1).toNatClampNeg) (xs (x3 + 2).toNatClampNeg) (xs (x3 + 3).toNatClampNeg) (xs (x3 + 4).toNatClampNeg)) e1 hB1.1 (fun _ => rfl) ⟨(by have q1 := hle.1; have q2 := hB2.2.2.1; show zN hx' + zN hm ≤ _; omega), (by have q1 := hle.2.1; have q2 := hB2.2.2.2; show zS hx' + zS hm ≤ _; omega)⟩ rfl (by decide) zcd_X11_rest rfl ⟨zw_479, zw_480, zw_481, zw_57⟩ ⟨Nat.le_of_ble_eq_true rfl, Nat.le_of_ble_eq_true rfl⟩ rfl (Nat.le_of_ble_eq_true rfl) (eL_9 10 rfl) ?_
  refine u_aload2 (eL_9 11 rfl) ?_
  refine u_aload0 (eL_9 12 rfl) ?_
  refine u_iload3 (eL_9 13 rfl) ?_
  refine u_iconst (eL_9 14 rfl) zk_iconst_1 ?_
  refine u_iadd (eL_9 15 rfl) ?_
  refine u_sld hv.1 (eL_9 16 rfl) ?_
  refine u_aload0 (eL_9 17 rfl) ?_
  refine u_iload3 (eL_9 18 rfl) ?_
  refine u_iconst (eL_9 19 rfl) zk_iconst_2 ?_
  refine u_iadd (eL_9 20 rfl) ?_
  refine u_sld hv.2.1 (eL_9 21 rfl) ?_
  refine u_aload0 (eL_9 22 rfl) ?_
  refine u_iload3 (eL_9 23 rfl) ?_
  refine u_iconst (eL_9 24 rfl) zk_iconst_3 ?_
  refine u_iadd (eL_9 25 rfl) ?_
  refine u_sld hv.2.2.1 (eL_9 26 rfl) ?_
  refine u_aload0 (eL_9 27 rfl) ?_
  refine u_iload3 (eL_9 28 rfl) ?_
  refine u_iconst (eL_9 29 rfl) zk_iconst_4 ?_
  refine u_iadd (eL_9 30 rfl) ?_
  refine u_sld hv.2.2.2.1 (eL_9 31 rfl) ?_
  refine u_swap ?_
  refine u_callV (ai := [(xs (x3 + 1).toNatClampNeg), (xs (x3 + 2).toNatClampNeg), (xs (x3 + 3).toNatClampNeg), (xs (x3 + 4).toNatClampNeg)]) (rest := [.long r]) (cv1 := zoJ) (cX12_rest_ok l hm 0 (xs (x3 + 1).toNatClampNeg) (xs (x3 + 2).toNatClampNeg) (xs (x3 + 3).toNatClampNeg) (xs (x3 + 4).toNatClampNeg)) e2 hB1.2.1 (fun _ => rfl) ⟨(by have q2 := hB2.2.2.1; show zN hm' + zN hx' ≤ _; omega), (by have q2 := hB2.2.2.2; show zS hm' + zS hx' ≤ _; omega)⟩ rfl (by decide) zcd_X12_rest rfl ⟨zw_1341, zw_1342, zw_1343, zw_62⟩ ⟨Nat.le_of_ble_eq_true rfl, Nat.le_of_ble_eq_true rfl⟩ rfl (Nat.le_of_ble_eq_true rfl) (eL_9 32 rfl) ?_
  refine u_swap ?_
  exact u_lcmpT (eL_9 33 rfl) (eL_9 34 rfl) (t := 1905) (by decide) (K _ _ hI')
theorem lc_seen {p : Program} {l : Launch} {e : Env} {s : State} {m : MethodId} {below : List Frame} {meth : Method} {c : Code} {b L : Nat} {xs : Nat → Int32} {D : va_G} {cA : Nat → ClassId} {la lb : Nat} {x3 : Int32} {Inv : Nat → Zh → Zh → Prop} (hS : zS_seen Inv) (hB : zBd Inv) {k : Nat} {hx hm : Zh} (hk : k < 512) (hv : zvi x3 L) (hI : Inv k hx hm) (K : ∀ hx' hm', Inv (k + 1) hx' hm' → U p l e s m below meth c b L xs D cA la lb x3 la lb 1905 [] hx' hm') : U p l e s m below meth c b L xs D cA la lb x3 la lb 775 [] hx hm := by
  refine u_aload1 (eL_9 37 rfl) ?_
  refine u_aload0 (eL_9 38 rfl) ?_
  refine u_iload3 (eL_9 39 rfl) ?_
  refine u_iconst (eL_9 40 rfl) zk_iconst_1 ?_
  refine u_iadd (eL_9 41 rfl) ?_
  refine u_sld hv.1 (eL_9 42 rfl) ?_
  refine u_aload0 (eL_9 43 rfl) ?_
  refine u_iload3 (eL_9 44 rfl) ?_
  refine u_iconst (eL_9 45 rfl) zk_iconst_2 ?_
  refine u_iadd (eL_9 46 rfl) ?_
  refine u_sld hv.2.1 (eL_9 47 rfl) ?_
  refine u_aload0 (eL_9 48 rfl) ?_
  refine u_iload3 (eL_9 49 rfl) ?_
  refine u_iconst (eL_10 0 rfl) zk_iconst_3 ?_
  refine u_iadd (eL_10 1 rfl) ?_
  refine u_sld hv.2.2.1 (eL_10 2 rfl) ?_
  refine u_aload0 (eL_10 3 rfl) ?_
  refine u_iload3 (eL_10 4 rfl) ?_
  refine u_iconst (eL_10 5 rfl) zk_iconst_4 ?_
  refine u_iadd (eL_10 6 rfl) ?_
  refine u_sld hv.2.2.2.1 (eL_10 7 rfl) ?_
  refine u_aload0 (eL_10 8 rfl) ?_
  refine u_iload3 (eL_10 9 rfl) ?_
  refine u_iconst (eL_10 10 rfl) zk_iconst_5 ?_
  refine u_iadd (eL_10 11 rfl) ?_
  refine u_sld hv.2.2.2.2.1 (eL_10 12 rfl) ?_
  refine u_aload0 (eL_10 13 rfl) ?_
  refine u_iload3 (eL_10 14 rfl) ?_
  refine u_bipush (eL_10 15 rfl) zk_bipush_6 ?_
  refine u_iadd (eL_10 16 rfl) ?_
  refine u_sld hv.2.2.2.2.2 (eL_10 17 rfl) ?_
  obtain ⟨r, hx', hm', e1, e2, hI'⟩ := hS k hx hm (xs (x3 + 1).toNatClampNeg) (xs (x3 + 2).toNatClampNeg) (xs (x3 + 3).toNatClampNeg) (xs (x3 + 4).toNatClampNeg) (xs (x3 + 5).toNatClampNeg) (xs (x3 + 6).toNatClampNeg) hk hI
  have hB1 := hB k hx hm (Nat.le_of_lt hk) hI
  have hB2 := hB (k + 1) hx' hm' hk hI'
  have hle : zLe hm hm' := ((cX12_seen_ok l hm 0 (xs (x3 + 1).toNatClampNeg) (xs (x3 + 2).toNatClampNeg) (xs (x3 + 3).toNatClampNeg) (xs (x3 + 4).toNatClampNeg) (xs (x3 + 5).toNatClampNeg) (xs (x3 + 6).toNatClampNeg)) (zoJ (r, hm')) (by rw [e2]; rfl)).1
  refine u_callV (ai := [(xs (x3 + 1).toNatClampNeg), (xs (x3 + 2).toNatClampNeg), (xs (x3 + 3).toNatClampNeg), (xs (x3 + 4).toNatClampNeg), (xs (x3 + 5).toNatClampNeg), (xs (x3 + 6).toNatClampNeg)]) (rest := []) (cv1 := zoJ) (cX11_seen_ok l hx 0 (xs (x3 + 1).toNatClampNeg) (xs (x3 + 2).toNatClampNeg) (xs (x3 + 3).toNatClampNeg) (xs (x3 + 4).toNatClampNeg) (xs (x3 + 5).toNatClampNeg) (xs (x3 + 6).toNatClampNeg)) e1 hB1.1 (fun _ => rfl) ⟨(by have q1 := hle.1; have q2 := hB2.2.2.1; show zN hx' + zN hm ≤ _; omega), (by have q1 := hle.2.1; have q2 := hB2.2.2.2; show zS hx' + zS hm ≤ _; omega)⟩ rfl (by decide) zcd_X11_seen rfl ⟨zw_507, zw_508, zw_509, zw_57⟩ ⟨Nat.le_of_ble_eq_true rfl, Nat.le_of_ble_eq_true rfl⟩ rfl (Nat.le_of_ble_eq_true rfl) (eL_10 18 rfl) ?_
  refine u_aload2 (eL_10 19 rfl) ?_
  refine u_aload0 (eL_10 20 rfl) ?_
  refine u_iload3 (eL_10 21 rfl) ?_
  refine u_iconst (eL_10 22 rfl) zk_iconst_1 ?_
  refine u_iadd (eL_10 23 rfl) ?_
  refine u_sld hv.1 (eL_10 24 rfl) ?_
  refine u_aload0 (eL_10 25 rfl) ?_
  refine u_iload3 (eL_10 26 rfl) ?_
  refine u_iconst (eL_10 27 rfl) zk_iconst_2 ?_
  refine u_iadd (eL_10 28 rfl) ?_
  refine u_sld hv.2.1 (eL_10 29 rfl) ?_
  refine u_aload0 (eL_10 30 rfl) ?_
  refine u_iload3 (eL_10 31 rfl) ?_
  refine u_iconst (eL_10 32 rfl) zk_iconst_3 ?_
  refine u_iadd (eL_10 33 rfl) ?_
  refine u_sld hv.2.2.1 (eL_10 34 rfl) ?_
  refine u_aload0 (eL_10 35 rfl) ?_
  refine u_iload3 (eL_10 36 rfl) ?_
  refine u_iconst (eL_10 37 rfl) zk_iconst_4 ?_
  refine u_iadd (eL_10 38 rfl) ?_
  refine u_sld hv.2.2.2.1 (eL_10 39 rfl) ?_
  refine u_aload0 (eL_10 40 rfl) ?_
  refine u_iload3 (eL_10 41 rfl) ?_
  refine u_iconst (eL_10 42 rfl) zk_iconst_5 ?_
  refine u_iadd (eL_10 43 rfl) ?_
  refine u_sld hv.2.2.2.2.1 (eL_10 44 rfl) ?_
  refine u_aload0 (eL_10 45 rfl) ?_
  refine u_iload3 (eL_10 46 rfl) ?_
  refine u_bipush (eL_10 47 rfl) zk_bipush_6 ?_
  refine u_iadd (eL_10 48 rfl) ?_
  refine u_sld hv.2.2.2.2.2 (eL_10 49 rfl) ?_
  refine u_swap ?_
  refine u_callV (ai := [(xs (x3 + 1).toNatClampNeg), (xs (x3 + 2).toNatClampNeg), (xs (x3 + 3).toNatClampNeg), (xs (x3 + 4).toNatClampNeg), (xs (x3 + 5).toNatClampNeg), (xs (x3 + 6).toNatClampNeg)]) (rest := [.long r]) (cv1 := zoJ) (cX12_seen_ok l hm 0 (xs (x3 + 1).toNatClampNeg) (xs (x3 + 2).toNatClampNeg) (xs (x3 + 3).toNatClampNeg) (xs (x3 + 4).toNatClampNeg) (xs (x3 + 5).toNatClampNeg) (xs (x3 + 6).toNatClampNeg)) e2 hB1.2.1 (fun _ => rfl) ⟨(by have q2 := hB2.2.2.1; show zN hm' + zN hx' ≤ _; omega), (by have q2 := hB2.2.2.2; show zS hm' + zS hx' ≤ _; omega)⟩ rfl (by decide) zcd_X12_seen rfl ⟨zw_1360, zw_1361, zw_1362, zw_62⟩ ⟨Nat.le_of_ble_eq_true rfl, Nat.le_of_ble_eq_true rfl⟩ rfl (Nat.le_of_ble_eq_true rfl) (eL_11 0 rfl) ?_
  refine u_swap ?_
  exact u_lcmpT (eL_11 1 rfl) (eL_11 2 rfl) (t := 1905) (by decide) (K _ _ hI')
theorem lc_weights {p : Program} {l : Launch} {e : Env} {s : State} {m : MethodId} {below : List Frame} {meth : Method} {c : Code} {b L : Nat} {xs : Nat → Int32} {D : va_G} {cA : Nat → ClassId} {la lb : Nat} {x3 : Int32} {Inv : Nat → Zh → Zh → Prop} (hS : zS_weights Inv) (hB : zBd Inv) {k : Nat} {hx hm : Zh} (hk : k < 512) (hv : zvi x3 L) (hI : Inv k hx hm) (K : ∀ hx' hm', Inv (k + 1) hx' hm' → U p l e s m below meth c b L xs D cA la lb x3 la lb 1905 [] hx' hm') : U p l e s m below meth c b L xs D cA la lb x3 la lb 851 [] hx hm := by
  refine u_aload1 (eL_11 5 rfl) ?_
  refine u_aload0 (eL_11 6 rfl) ?_
  refine u_iload3 (eL_11 7 rfl) ?_
  refine u_iconst (eL_11 8 rfl) zk_iconst_1 ?_
  refine u_iadd (eL_11 9 rfl) ?_
  refine u_sld hv.1 (eL_11 10 rfl) ?_
  refine u_aload0 (eL_11 11 rfl) ?_
  refine u_iload3 (eL_11 12 rfl) ?_
  refine u_iconst (eL_11 13 rfl) zk_iconst_2 ?_
  refine u_iadd (eL_11 14 rfl) ?_
  refine u_sld hv.2.1 (eL_11 15 rfl) ?_
  refine u_aload0 (eL_11 16 rfl) ?_
  refine u_iload3 (eL_11 17 rfl) ?_
  refine u_iconst (eL_11 18 rfl) zk_iconst_3 ?_
  refine u_iadd (eL_11 19 rfl) ?_
  refine u_sld hv.2.2.1 (eL_11 20 rfl) ?_
  refine u_aload0 (eL_11 21 rfl) ?_
  refine u_iload3 (eL_11 22 rfl) ?_
  refine u_iconst (eL_11 23 rfl) zk_iconst_4 ?_
  refine u_iadd (eL_11 24 rfl) ?_
  refine u_sld hv.2.2.2.1 (eL_11 25 rfl) ?_
  obtain ⟨r, hx', hm', e1, e2, hI'⟩ := hS k hx hm (xs (x3 + 1).toNatClampNeg) (xs (x3 + 2).toNatClampNeg) (xs (x3 + 3).toNatClampNeg) (xs (x3 + 4).toNatClampNeg) hk hI
  have hB1 := hB k hx hm (Nat.le_of_lt hk) hI
  have hB2 := hB (k + 1) hx' hm' hk hI'
  have hle : zLe hm hm' := ((cX12_weights_ok l hm 0 (xs (x3 + 1).toNatClampNeg) (xs (x3 + 2).toNatClampNeg) (xs (x3 + 3).toNatClampNeg) (xs (x3 + 4).toNatClampNeg)) (zoI (r, hm')) (by rw [e2]; rfl)).1
  refine u_callV (ai := [(xs (x3 + 1).toNatClampNeg), (xs (x3 + 2).toNatClampNeg), (xs (x3 + 3).toNatClampNeg), (xs (x3 + 4).toNatClampNeg)]) (rest := []) (cv1 := zoI) (cX11_weights_ok l hx 0 (xs (x3 + 1).toNatClampNeg) (xs (x3 + 2).toNatClampNeg) (xs (x3 + 3).toNatClampNeg) (xs (x3 + 4).toNatClampNeg)) e1 hB1.1 (fun _ => rfl) ⟨(by have q1 := hle.1; have q2 := hB2.2.2.1; show zN hx' + zN hm ≤ _; omega), (by have q1 := hle.2.1; have q2 := hB2.2.2.2; show zS hx' + zS hm ≤ _; omega)⟩ rfl (by decide) zcd_X11_weights rfl ⟨zw_516, zw_517, zw_518, zw_57⟩ ⟨Nat.le_of_ble_eq_true rfl, Nat.le_of_ble_eq_true rfl⟩ rfl (Nat.le_of_ble_eq_true rfl) (eL_11 26 rfl) ?_
  refine u_aload2 (eL_11 27 rfl) ?_
  refine u_aload0 (eL_11 28 rfl) ?_
  refine u_iload3 (eL_11 29 rfl) ?_
  refine u_iconst (eL_11 30 rfl) zk_iconst_1 ?_
  refine u_iadd (eL_11 31 rfl) ?_
  refine u_sld hv.1 (eL_11 32 rfl) ?_
  refine u_aload0 (eL_11 33 rfl) ?_
  refine u_iload3 (eL_11 34 rfl) ?_
  refine u_iconst (eL_11 35 rfl) zk_iconst_2 ?_
  refine u_iadd (eL_11 36 rfl) ?_
  refine u_sld hv.2.1 (eL_11 37 rfl) ?_
  refine u_aload0 (eL_11 38 rfl) ?_
  refine u_iload3 (eL_11 39 rfl) ?_
  refine u_iconst (eL_11 40 rfl) zk_iconst_3 ?_
  refine u_iadd (eL_11 41 rfl) ?_
  refine u_sld hv.2.2.1 (eL_11 42 rfl) ?_
  refine u_aload0 (eL_11 43 rfl) ?_
  refine u_iload3 (eL_11 44 rfl) ?_
  refine u_iconst (eL_11 45 rfl) zk_iconst_4 ?_
  refine u_iadd (eL_11 46 rfl) ?_
  refine u_sld hv.2.2.2.1 (eL_11 47 rfl) ?_
  refine u_swap ?_
  refine u_callV (ai := [(xs (x3 + 1).toNatClampNeg), (xs (x3 + 2).toNatClampNeg), (xs (x3 + 3).toNatClampNeg), (xs (x3 + 4).toNatClampNeg)]) (rest := [.int r]) (cv1 := zoI) (cX12_weights_ok l hm 0 (xs (x3 + 1).toNatClampNeg) (xs (x3 + 2).toNatClampNeg) (xs (x3 + 3).toNatClampNeg) (xs (x3 + 4).toNatClampNeg)) e2 hB1.2.1 (fun _ => rfl) ⟨(by have q2 := hB2.2.2.1; show zN hm' + zN hx' ≤ _; omega), (by have q2 := hB2.2.2.2; show zS hm' + zS hx' ≤ _; omega)⟩ rfl (by decide) zcd_X12_weights rfl ⟨zw_1364, zw_1365, zw_1366, zw_62⟩ ⟨Nat.le_of_ble_eq_true rfl, Nat.le_of_ble_eq_true rfl⟩ rfl (Nat.le_of_ble_eq_true rfl) (eL_11 48 rfl) ?_
  refine u_swap ?_
  exact u_eqT (eL_11 49 rfl) (t := 1905) (by decide) (K _ _ hI')
theorem lc_weightsOf {p : Program} {l : Launch} {e : Env} {s : State} {m : MethodId} {below : List Frame} {meth : Method} {c : Code} {b L : Nat} {xs : Nat → Int32} {D : va_G} {cA : Nat → ClassId} {la lb : Nat} {x3 : Int32} {Inv : Nat → Zh → Zh → Prop} (hS : zS_weightsOf Inv) (hB : zBd Inv) {k : Nat} {hx hm : Zh} (hk : k < 512) (hv : zvi x3 L) (hI : Inv k hx hm) (K : ∀ hx' hm', Inv (k + 1) hx' hm' → U p l e s m below meth c b L xs D cA la lb x3 la lb 1905 [] hx' hm') : U p l e s m below meth c b L xs D cA la lb x3 la lb 904 [] hx hm := by
  refine u_aload1 (eL_12 2 rfl) ?_
  refine u_aload0 (eL_12 3 rfl) ?_
  refine u_iload3 (eL_12 4 rfl) ?_
  refine u_iconst (eL_12 5 rfl) zk_iconst_1 ?_
  refine u_iadd (eL_12 6 rfl) ?_
  refine u_sld hv.1 (eL_12 7 rfl) ?_
  refine u_aload0 (eL_12 8 rfl) ?_
  refine u_iload3 (eL_12 9 rfl) ?_
  refine u_iconst (eL_12 10 rfl) zk_iconst_2 ?_
  refine u_iadd (eL_12 11 rfl) ?_
  refine u_sld hv.2.1 (eL_12 12 rfl) ?_
  refine u_aload0 (eL_12 13 rfl) ?_
  refine u_iload3 (eL_12 14 rfl) ?_
  refine u_iconst (eL_12 15 rfl) zk_iconst_3 ?_
  refine u_iadd (eL_12 16 rfl) ?_
  refine u_sld hv.2.2.1 (eL_12 17 rfl) ?_
  refine u_aload0 (eL_12 18 rfl) ?_
  refine u_iload3 (eL_12 19 rfl) ?_
  refine u_iconst (eL_12 20 rfl) zk_iconst_4 ?_
  refine u_iadd (eL_12 21 rfl) ?_
  refine u_sld hv.2.2.2.1 (eL_12 22 rfl) ?_
  obtain ⟨r, hx', hm', e1, e2, hI'⟩ := hS k hx hm (xs (x3 + 1).toNatClampNeg) (xs (x3 + 2).toNatClampNeg) (xs (x3 + 3).toNatClampNeg) (xs (x3 + 4).toNatClampNeg) hk hI
  have hB1 := hB k hx hm (Nat.le_of_lt hk) hI
  have hB2 := hB (k + 1) hx' hm' hk hI'
  have hle : zLe hm hm' := ((cX12_weightsOf_ok l hm 0 (xs (x3 + 1).toNatClampNeg) (xs (x3 + 2).toNatClampNeg) (xs (x3 + 3).toNatClampNeg) (xs (x3 + 4).toNatClampNeg)) (zoI (r, hm')) (by rw [e2]; rfl)).1
  refine u_callV (ai := [(xs (x3 + 1).toNatClampNeg), (xs (x3 + 2).toNatClampNeg), (xs (x3 + 3).toNatClampNeg), (xs (x3 + 4).toNatClampNeg)]) (rest := []) (cv1 := zoI) (cX11_weightsOf_ok l hx 0 (xs (x3 + 1).toNatClampNeg) (xs (x3 + 2).toNatClampNeg) (xs (x3 + 3).toNatClampNeg) (xs (x3 + 4).toNatClampNeg)) e1 hB1.1 (fun _ => rfl) ⟨(by have q1 := hle.1; have q2 := hB2.2.2.1; show zN hx' + zN hm ≤ _; omega), (by have q1 := hle.2.1; have q2 := hB2.2.2.2; show zS hx' + zS hm ≤ _; omega)⟩ rfl (by decide) zcd_X11_weightsOf rfl ⟨zw_573, zw_574, zw_575, zw_57⟩ ⟨Nat.le_of_ble_eq_true rfl, Nat.le_of_ble_eq_true rfl⟩ rfl (Nat.le_of_ble_eq_true rfl) (eL_12 23 rfl) ?_
  refine u_aload2 (eL_12 24 rfl) ?_
  refine u_aload0 (eL_12 25 rfl) ?_
  refine u_iload3 (eL_12 26 rfl) ?_
  refine u_iconst (eL_12 27 rfl) zk_iconst_1 ?_
  refine u_iadd (eL_12 28 rfl) ?_
  refine u_sld hv.1 (eL_12 29 rfl) ?_
  refine u_aload0 (eL_12 30 rfl) ?_
  refine u_iload3 (eL_12 31 rfl) ?_
  refine u_iconst (eL_12 32 rfl) zk_iconst_2 ?_
  refine u_iadd (eL_12 33 rfl) ?_
  refine u_sld hv.2.1 (eL_12 34 rfl) ?_
  refine u_aload0 (eL_12 35 rfl) ?_
  refine u_iload3 (eL_12 36 rfl) ?_
  refine u_iconst (eL_12 37 rfl) zk_iconst_3 ?_
  refine u_iadd (eL_12 38 rfl) ?_
  refine u_sld hv.2.2.1 (eL_12 39 rfl) ?_
  refine u_aload0 (eL_12 40 rfl) ?_
  refine u_iload3 (eL_12 41 rfl) ?_
  refine u_iconst (eL_12 42 rfl) zk_iconst_4 ?_
  refine u_iadd (eL_12 43 rfl) ?_
  refine u_sld hv.2.2.2.1 (eL_12 44 rfl) ?_
  refine u_swap ?_
  refine u_callV (ai := [(xs (x3 + 1).toNatClampNeg), (xs (x3 + 2).toNatClampNeg), (xs (x3 + 3).toNatClampNeg), (xs (x3 + 4).toNatClampNeg)]) (rest := [.int r]) (cv1 := zoI) (cX12_weightsOf_ok l hm 0 (xs (x3 + 1).toNatClampNeg) (xs (x3 + 2).toNatClampNeg) (xs (x3 + 3).toNatClampNeg) (xs (x3 + 4).toNatClampNeg)) e2 hB1.2.1 (fun _ => rfl) ⟨(by have q2 := hB2.2.2.1; show zN hm' + zN hx' ≤ _; omega), (by have q2 := hB2.2.2.2; show zS hm' + zS hx' ≤ _; omega)⟩ rfl (by decide) zcd_X12_weightsOf rfl ⟨zw_1377, zw_1378, zw_1379, zw_62⟩ ⟨Nat.le_of_ble_eq_true rfl, Nat.le_of_ble_eq_true rfl⟩ rfl (Nat.le_of_ble_eq_true rfl) (eL_12 45 rfl) ?_
  refine u_swap ?_
  exact u_eqT (eL_12 46 rfl) (t := 1905) (by decide) (K _ _ hI')
theorem lc_weight {p : Program} {l : Launch} {e : Env} {s : State} {m : MethodId} {below : List Frame} {meth : Method} {c : Code} {b L : Nat} {xs : Nat → Int32} {D : va_G} {cA : Nat → ClassId} {la lb : Nat} {x3 : Int32} {Inv : Nat → Zh → Zh → Prop} (hS : zS_weight Inv) (hB : zBd Inv) {k : Nat} {hx hm : Zh} (hk : k < 512) (hv : zvi x3 L) (hI : Inv k hx hm) (K : ∀ hx' hm', Inv (k + 1) hx' hm' → U p l e s m below meth c b L xs D cA la lb x3 la lb 1905 [] hx' hm') : U p l e s m below meth c b L xs D cA la lb x3 la lb 957 [] hx hm := by
  refine u_aload1 (eL_12 49 rfl) ?_
  refine u_aload0 (eL_13 0 rfl) ?_
  refine u_iload3 (eL_13 1 rfl) ?_
  refine u_iconst (eL_13 2 rfl) zk_iconst_1 ?_
  refine u_iadd (eL_13 3 rfl) ?_
  refine u_sld hv.1 (eL_13 4 rfl) ?_
  refine u_aload0 (eL_13 5 rfl) ?_
  refine u_iload3 (eL_13 6 rfl) ?_
  refine u_iconst (eL_13 7 rfl) zk_iconst_2 ?_
  refine u_iadd (eL_13 8 rfl) ?_
  refine u_sld hv.2.1 (eL_13 9 rfl) ?_
  obtain ⟨r, e1, e2, hI'⟩ := hS k hx hm (xs (x3 + 1).toNatClampNeg) (xs (x3 + 2).toNatClampNeg) hk hI
  have hB1 := hB k hx hm (Nat.le_of_lt hk) hI
  have hB2 := hB (k + 1) hx hm hk hI'
  have hle : zLe hm hm := ((cX12_weight_ok l hm 0 (xs (x3 + 1).toNatClampNeg) (xs (x3 + 2).toNatClampNeg)) ((zoj hm) r) (by rw [e2]; rfl)).1
  refine u_callV (ai := [(xs (x3 + 1).toNatClampNeg), (xs (x3 + 2).toNatClampNeg)]) (rest := []) (cv1 := (zoj hx)) (cX11_weight_ok l hx 0 (xs (x3 + 1).toNatClampNeg) (xs (x3 + 2).toNatClampNeg)) e1 hB1.1 (fun _ => rfl) ⟨(by have q1 := hle.1; have q2 := hB2.2.2.1; show zN hx + zN hm ≤ _; omega), (by have q1 := hle.2.1; have q2 := hB2.2.2.2; show zS hx + zS hm ≤ _; omega)⟩ rfl (by decide) zcd_X11_weight rfl ⟨zw_594, zw_595, zw_596, zw_57⟩ ⟨Nat.le_of_ble_eq_true rfl, Nat.le_of_ble_eq_true rfl⟩ rfl (Nat.le_of_ble_eq_true rfl) (eL_13 10 rfl) ?_
  refine u_aload2 (eL_13 11 rfl) ?_
  refine u_aload0 (eL_13 12 rfl) ?_
  refine u_iload3 (eL_13 13 rfl) ?_
  refine u_iconst (eL_13 14 rfl) zk_iconst_1 ?_
  refine u_iadd (eL_13 15 rfl) ?_
  refine u_sld hv.1 (eL_13 16 rfl) ?_
  refine u_aload0 (eL_13 17 rfl) ?_
  refine u_iload3 (eL_13 18 rfl) ?_
  refine u_iconst (eL_13 19 rfl) zk_iconst_2 ?_
  refine u_iadd (eL_13 20 rfl) ?_
  refine u_sld hv.2.1 (eL_13 21 rfl) ?_
  refine u_swap ?_
  refine u_callV (ai := [(xs (x3 + 1).toNatClampNeg), (xs (x3 + 2).toNatClampNeg)]) (rest := [.long r]) (cv1 := (zoj hm)) (cX12_weight_ok l hm 0 (xs (x3 + 1).toNatClampNeg) (xs (x3 + 2).toNatClampNeg)) e2 hB1.2.1 (fun _ => rfl) ⟨(by have q2 := hB2.2.2.1; show zN hm + zN hx ≤ _; omega), (by have q2 := hB2.2.2.2; show zS hm + zS hx ≤ _; omega)⟩ rfl (by decide) zcd_X12_weight rfl ⟨zw_1396, zw_1397, zw_1398, zw_62⟩ ⟨Nat.le_of_ble_eq_true rfl, Nat.le_of_ble_eq_true rfl⟩ rfl (Nat.le_of_ble_eq_true rfl) (eL_13 22 rfl) ?_
  refine u_swap ?_
  exact u_lcmpT (eL_13 23 rfl) (eL_13 24 rfl) (t := 1905) (by decide) (K _ _ hI')
theorem lc_rowEntry {p : Program} {l : Launch} {e : Env} {s : State} {m : MethodId} {below : List Frame} {meth : Method} {c : Code} {b L : Nat} {xs : Nat → Int32} {D : va_G} {cA : Nat → ClassId} {la lb : Nat} {x3 : Int32} {Inv : Nat → Zh → Zh → Prop} (hS : zS_rowEntry Inv) (hB : zBd Inv) {k : Nat} {hx hm : Zh} (hk : k < 512) (hv : zvi x3 L) (hI : Inv k hx hm) (K : ∀ hx' hm', Inv (k + 1) hx' hm' → U p l e s m below meth c b L xs D cA la lb x3 la lb 1905 [] hx' hm') : U p l e s m below meth c b L xs D cA la lb x3 la lb 991 [] hx hm := by
  refine u_aload1 (eL_13 27 rfl) ?_
  refine u_aload0 (eL_13 28 rfl) ?_
  refine u_iload3 (eL_13 29 rfl) ?_
  refine u_iconst (eL_13 30 rfl) zk_iconst_1 ?_
  refine u_iadd (eL_13 31 rfl) ?_
  refine u_sld hv.1 (eL_13 32 rfl) ?_
  refine u_aload0 (eL_13 33 rfl) ?_
  refine u_iload3 (eL_13 34 rfl) ?_
  refine u_iconst (eL_13 35 rfl) zk_iconst_2 ?_
  refine u_iadd (eL_13 36 rfl) ?_
  refine u_sld hv.2.1 (eL_13 37 rfl) ?_
  refine u_aload0 (eL_13 38 rfl) ?_
  refine u_iload3 (eL_13 39 rfl) ?_
  refine u_iconst (eL_13 40 rfl) zk_iconst_3 ?_
  refine u_iadd (eL_13 41 rfl) ?_
  refine u_sld hv.2.2.1 (eL_13 42 rfl) ?_
  refine u_aload0 (eL_13 43 rfl) ?_
  refine u_iload3 (eL_13 44 rfl) ?_
  refine u_iconst (eL_13 45 rfl) zk_iconst_4 ?_
  refine u_iadd (eL_13 46 rfl) ?_
  refine u_sld hv.2.2.2.1 (eL_13 47 rfl) ?_
  obtain ⟨r, e1, e2, hI'⟩ := hS k hx hm (xs (x3 + 1).toNatClampNeg) (xs (x3 + 2).toNatClampNeg) (xs (x3 + 3).toNatClampNeg) (xs (x3 + 4).toNatClampNeg) hk hI
  have hB1 := hB k hx hm (Nat.le_of_lt hk) hI
  have hB2 := hB (k + 1) hx hm hk hI'
  have hle : zLe hm hm := ((cX12_rowEntry_ok l hm 0 (xs (x3 + 1).toNatClampNeg) (xs (x3 + 2).toNatClampNeg) (xs (x3 + 3).toNatClampNeg) (xs (x3 + 4).toNatClampNeg)) ((zoj hm) r) (by rw [e2]; rfl)).1
  refine u_callV (ai := [(xs (x3 + 1).toNatClampNeg), (xs (x3 + 2).toNatClampNeg), (xs (x3 + 3).toNatClampNeg), (xs (x3 + 4).toNatClampNeg)]) (rest := []) (cv1 := (zoj hx)) (cX11_rowEntry_ok l hx 0 (xs (x3 + 1).toNatClampNeg) (xs (x3 + 2).toNatClampNeg) (xs (x3 + 3).toNatClampNeg) (xs (x3 + 4).toNatClampNeg)) e1 hB1.1 (fun _ => rfl) ⟨(by have q1 := hle.1; have q2 := hB2.2.2.1; show zN hx + zN hm ≤ _; omega), (by have q1 := hle.2.1; have q2 := hB2.2.2.2; show zS hx + zS hm ≤ _; omega)⟩ rfl (by decide) zcd_X11_rowEntry rfl ⟨zw_613, zw_614, zw_615, zw_57⟩ ⟨Nat.le_of_ble_eq_true rfl, Nat.le_of_ble_eq_true rfl⟩ rfl (Nat.le_of_ble_eq_true rfl) (eL_13 48 rfl) ?_
  refine u_aload2 (eL_13 49 rfl) ?_
  refine u_aload0 (eL_14 0 rfl) ?_
  refine u_iload3 (eL_14 1 rfl) ?_
  refine u_iconst (eL_14 2 rfl) zk_iconst_1 ?_
  refine u_iadd (eL_14 3 rfl) ?_
  refine u_sld hv.1 (eL_14 4 rfl) ?_
  refine u_aload0 (eL_14 5 rfl) ?_
  refine u_iload3 (eL_14 6 rfl) ?_
  refine u_iconst (eL_14 7 rfl) zk_iconst_2 ?_
  refine u_iadd (eL_14 8 rfl) ?_
  refine u_sld hv.2.1 (eL_14 9 rfl) ?_
  refine u_aload0 (eL_14 10 rfl) ?_
  refine u_iload3 (eL_14 11 rfl) ?_
  refine u_iconst (eL_14 12 rfl) zk_iconst_3 ?_
  refine u_iadd (eL_14 13 rfl) ?_
  refine u_sld hv.2.2.1 (eL_14 14 rfl) ?_
  refine u_aload0 (eL_14 15 rfl) ?_
  refine u_iload3 (eL_14 16 rfl) ?_
  refine u_iconst (eL_14 17 rfl) zk_iconst_4 ?_
  refine u_iadd (eL_14 18 rfl) ?_
  refine u_sld hv.2.2.2.1 (eL_14 19 rfl) ?_
  refine u_swap ?_
  refine u_callV (ai := [(xs (x3 + 1).toNatClampNeg), (xs (x3 + 2).toNatClampNeg), (xs (x3 + 3).toNatClampNeg), (xs (x3 + 4).toNatClampNeg)]) (rest := [.long r]) (cv1 := (zoj hm)) (cX12_rowEntry_ok l hm 0 (xs (x3 + 1).toNatClampNeg) (xs (x3 + 2).toNatClampNeg) (xs (x3 + 3).toNatClampNeg) (xs (x3 + 4).toNatClampNeg)) e2 hB1.2.1 (fun _ => rfl) ⟨(by have q2 := hB2.2.2.1; show zN hm + zN hx ≤ _; omega), (by have q2 := hB2.2.2.2; show zS hm + zS hx ≤ _; omega)⟩ rfl (by decide) zcd_X12_rowEntry rfl ⟨zw_1404, zw_1405, zw_1406, zw_62⟩ ⟨Nat.le_of_ble_eq_true rfl, Nat.le_of_ble_eq_true rfl⟩ rfl (Nat.le_of_ble_eq_true rfl) (eL_14 20 rfl) ?_
  refine u_swap ?_
  exact u_lcmpT (eL_14 21 rfl) (eL_14 22 rfl) (t := 1905) (by decide) (K _ _ hI')
theorem lc_unlike {p : Program} {l : Launch} {e : Env} {s : State} {m : MethodId} {below : List Frame} {meth : Method} {c : Code} {b L : Nat} {xs : Nat → Int32} {D : va_G} {cA : Nat → ClassId} {la lb : Nat} {x3 : Int32} {Inv : Nat → Zh → Zh → Prop} (hS : zS_unlike Inv) (hB : zBd Inv) {k : Nat} {hx hm : Zh} (hk : k < 512) (hv : zvi x3 L) (hI : Inv k hx hm) (K : ∀ hx' hm', Inv (k + 1) hx' hm' → U p l e s m below meth c b L xs D cA la lb x3 la lb 1905 [] hx' hm') : U p l e s m below meth c b L xs D cA la lb x3 la lb 1045 [] hx hm := by
  refine u_aload1 (eL_14 25 rfl) ?_
  refine u_aload0 (eL_14 26 rfl) ?_
  refine u_iload3 (eL_14 27 rfl) ?_
  refine u_iconst (eL_14 28 rfl) zk_iconst_1 ?_
  refine u_iadd (eL_14 29 rfl) ?_
  refine u_sld hv.1 (eL_14 30 rfl) ?_
  refine u_aload0 (eL_14 31 rfl) ?_
  refine u_iload3 (eL_14 32 rfl) ?_
  refine u_iconst (eL_14 33 rfl) zk_iconst_2 ?_
  refine u_iadd (eL_14 34 rfl) ?_
  refine u_sld hv.2.1 (eL_14 35 rfl) ?_
  refine u_aload0 (eL_14 36 rfl) ?_
  refine u_iload3 (eL_14 37 rfl) ?_
  refine u_iconst (eL_14 38 rfl) zk_iconst_3 ?_
  refine u_iadd (eL_14 39 rfl) ?_
  refine u_sld hv.2.2.1 (eL_14 40 rfl) ?_
  obtain ⟨r, hx', hm', e1, e2, hI'⟩ := hS k hx hm (xs (x3 + 1).toNatClampNeg) (xs (x3 + 2).toNatClampNeg) (xs (x3 + 3).toNatClampNeg) hk hI
  have hB1 := hB k hx hm (Nat.le_of_lt hk) hI
  have hB2 := hB (k + 1) hx' hm' hk hI'
  have hle : zLe hm hm' := ((cX12_unlike_ok l hm 0 (xs (x3 + 1).toNatClampNeg) (xs (x3 + 2).toNatClampNeg) (xs (x3 + 3).toNatClampNeg)) (zoI (r, hm')) (by rw [e2]; rfl)).1
  refine u_callV (ai := [(xs (x3 + 1).toNatClampNeg), (xs (x3 + 2).toNatClampNeg), (xs (x3 + 3).toNatClampNeg)]) (rest := []) (cv1 := zoI) (cX11_unlike_ok l hx 0 (xs (x3 + 1).toNatClampNeg) (xs (x3 + 2).toNatClampNeg) (xs (x3 + 3).toNatClampNeg)) e1 hB1.1 (fun _ => rfl) ⟨(by have q1 := hle.1; have q2 := hB2.2.2.1; show zN hx' + zN hm ≤ _; omega), (by have q1 := hle.2.1; have q2 := hB2.2.2.2; show zS hx' + zS hm ≤ _; omega)⟩ rfl (by decide) zcd_X11_unlike rfl ⟨zw_633, zw_634, zw_635, zw_57⟩ ⟨Nat.le_of_ble_eq_true rfl, Nat.le_of_ble_eq_true rfl⟩ rfl (Nat.le_of_ble_eq_true rfl) (eL_14 41 rfl) ?_
  refine u_aload2 (eL_14 42 rfl) ?_
  refine u_aload0 (eL_14 43 rfl) ?_
  refine u_iload3 (eL_14 44 rfl) ?_
  refine u_iconst (eL_14 45 rfl) zk_iconst_1 ?_
  refine u_iadd (eL_14 46 rfl) ?_
  refine u_sld hv.1 (eL_14 47 rfl) ?_
  refine u_aload0 (eL_14 48 rfl) ?_
  refine u_iload3 (eL_14 49 rfl) ?_
  refine u_iconst (eL_15 0 rfl) zk_iconst_2 ?_
  refine u_iadd (eL_15 1 rfl) ?_
  refine u_sld hv.2.1 (eL_15 2 rfl) ?_
  refine u_aload0 (eL_15 3 rfl) ?_
  refine u_iload3 (eL_15 4 rfl) ?_
  refine u_iconst (eL_15 5 rfl) zk_iconst_3 ?_
  refine u_iadd (eL_15 6 rfl) ?_
  refine u_sld hv.2.2.1 (eL_15 7 rfl) ?_
  refine u_swap ?_
  refine u_callV (ai := [(xs (x3 + 1).toNatClampNeg), (xs (x3 + 2).toNatClampNeg), (xs (x3 + 3).toNatClampNeg)]) (rest := [.int r]) (cv1 := zoI) (cX12_unlike_ok l hm 0 (xs (x3 + 1).toNatClampNeg) (xs (x3 + 2).toNatClampNeg) (xs (x3 + 3).toNatClampNeg)) e2 hB1.2.1 (fun _ => rfl) ⟨(by have q2 := hB2.2.2.1; show zN hm' + zN hx' ≤ _; omega), (by have q2 := hB2.2.2.2; show zS hm' + zS hx' ≤ _; omega)⟩ rfl (by decide) zcd_X12_unlike rfl ⟨zw_1421, zw_1422, zw_1423, zw_62⟩ ⟨Nat.le_of_ble_eq_true rfl, Nat.le_of_ble_eq_true rfl⟩ rfl (Nat.le_of_ble_eq_true rfl) (eL_15 8 rfl) ?_
  refine u_swap ?_
  exact u_eqT (eL_15 9 rfl) (t := 1905) (by decide) (K _ _ hI')
theorem lc_ice {p : Program} {l : Launch} {e : Env} {s : State} {m : MethodId} {below : List Frame} {meth : Method} {c : Code} {b L : Nat} {xs : Nat → Int32} {D : va_G} {cA : Nat → ClassId} {la lb : Nat} {x3 : Int32} {Inv : Nat → Zh → Zh → Prop} (hS : zS_ice Inv) (hB : zBd Inv) {k : Nat} {hx hm : Zh} (hk : k < 512) (hv : zvi x3 L) (hI : Inv k hx hm) (K : ∀ hx' hm', Inv (k + 1) hx' hm' → U p l e s m below meth c b L xs D cA la lb x3 la lb 1905 [] hx' hm') : U p l e s m below meth c b L xs D cA la lb x3 la lb 1088 [] hx hm := by
  refine u_aload1 (eL_15 12 rfl) ?_
  refine u_aload0 (eL_15 13 rfl) ?_
  refine u_iload3 (eL_15 14 rfl) ?_
  refine u_iconst (eL_15 15 rfl) zk_iconst_1 ?_
  refine u_iadd (eL_15 16 rfl) ?_
  refine u_sld hv.1 (eL_15 17 rfl) ?_
  refine u_aload0 (eL_15 18 rfl) ?_
  refine u_iload3 (eL_15 19 rfl) ?_
  refine u_iconst (eL_15 20 rfl) zk_iconst_2 ?_
  refine u_iadd (eL_15 21 rfl) ?_
  refine u_sld hv.2.1 (eL_15 22 rfl) ?_
  refine u_aload0 (eL_15 23 rfl) ?_
  refine u_iload3 (eL_15 24 rfl) ?_
  refine u_iconst (eL_15 25 rfl) zk_iconst_3 ?_
  refine u_iadd (eL_15 26 rfl) ?_
  refine u_sld hv.2.2.1 (eL_15 27 rfl) ?_
  obtain ⟨r, hx', hm', e1, e2, hI'⟩ := hS k hx hm (xs (x3 + 1).toNatClampNeg) (xs (x3 + 2).toNatClampNeg) (xs (x3 + 3).toNatClampNeg) hk hI
  have hB1 := hB k hx hm (Nat.le_of_lt hk) hI
  have hB2 := hB (k + 1) hx' hm' hk hI'
  have hle : zLe hm hm' := ((cX12_ice_ok l hm 0 (xs (x3 + 1).toNatClampNeg) (xs (x3 + 2).toNatClampNeg) (xs (x3 + 3).toNatClampNeg)) (zoI (r, hm')) (by rw [e2]; rfl)).1
  refine u_callV (ai := [(xs (x3 + 1).toNatClampNeg), (xs (x3 + 2).toNatClampNeg), (xs (x3 + 3).toNatClampNeg)]) (rest := []) (cv1 := zoI) (cX11_ice_ok l hx 0 (xs (x3 + 1).toNatClampNeg) (xs (x3 + 2).toNatClampNeg) (xs (x3 + 3).toNatClampNeg)) e1 hB1.1 (fun _ => rfl) ⟨(by have q1 := hle.1; have q2 := hB2.2.2.1; show zN hx' + zN hm ≤ _; omega), (by have q1 := hle.2.1; have q2 := hB2.2.2.2; show zS hx' + zS hm ≤ _; omega)⟩ rfl (by decide) zcd_X11_ice rfl ⟨zw_695, zw_696, zw_697, zw_57⟩ ⟨Nat.le_of_ble_eq_true rfl, Nat.le_of_ble_eq_true rfl⟩ rfl (Nat.le_of_ble_eq_true rfl) (eL_15 28 rfl) ?_
  refine u_aload2 (eL_15 29 rfl) ?_
  refine u_aload0 (eL_15 30 rfl) ?_
  refine u_iload3 (eL_15 31 rfl) ?_
  refine u_iconst (eL_15 32 rfl) zk_iconst_1 ?_
  refine u_iadd (eL_15 33 rfl) ?_
  refine u_sld hv.1 (eL_15 34 rfl) ?_
  refine u_aload0 (eL_15 35 rfl) ?_
  refine u_iload3 (eL_15 36 rfl) ?_
  refine u_iconst (eL_15 37 rfl) zk_iconst_2 ?_
  refine u_iadd (eL_15 38 rfl) ?_
  refine u_sld hv.2.1 (eL_15 39 rfl) ?_
  refine u_aload0 (eL_15 40 rfl) ?_
  refine u_iload3 (eL_15 41 rfl) ?_
  refine u_iconst (eL_15 42 rfl) zk_iconst_3 ?_
  refine u_iadd (eL_15 43 rfl) ?_
  refine u_sld hv.2.2.1 (eL_15 44 rfl) ?_
  refine u_swap ?_
  refine u_callV (ai := [(xs (x3 + 1).toNatClampNeg), (xs (x3 + 2).toNatClampNeg), (xs (x3 + 3).toNatClampNeg)]) (rest := [.int r]) (cv1 := zoI) (cX12_ice_ok l hm 0 (xs (x3 + 1).toNatClampNeg) (xs (x3 + 2).toNatClampNeg) (xs (x3 + 3).toNatClampNeg)) e2 hB1.2.1 (fun _ => rfl) ⟨(by have q2 := hB2.2.2.1; show zN hm' + zN hx' ≤ _; omega), (by have q2 := hB2.2.2.2; show zS hm' + zS hx' ≤ _; omega)⟩ rfl (by decide) zcd_X12_ice rfl ⟨zw_1429, zw_1430, zw_1431, zw_62⟩ ⟨Nat.le_of_ble_eq_true rfl, Nat.le_of_ble_eq_true rfl⟩ rfl (Nat.le_of_ble_eq_true rfl) (eL_15 45 rfl) ?_
  refine u_swap ?_
  exact u_eqT (eL_15 46 rfl) (t := 1905) (by decide) (K _ _ hI')
theorem lc_walls {p : Program} {l : Launch} {e : Env} {s : State} {m : MethodId} {below : List Frame} {meth : Method} {c : Code} {b L : Nat} {xs : Nat → Int32} {D : va_G} {cA : Nat → ClassId} {la lb : Nat} {x3 : Int32} {Inv : Nat → Zh → Zh → Prop} (hS : zS_walls Inv) (hB : zBd Inv) {k : Nat} {hx hm : Zh} (hk : k < 512) (hv : zvi x3 L) (hI : Inv k hx hm) (K : ∀ hx' hm', Inv (k + 1) hx' hm' → U p l e s m below meth c b L xs D cA la lb x3 la lb 1905 [] hx' hm') : U p l e s m below meth c b L xs D cA la lb x3 la lb 1131 [] hx hm := by
  refine u_aload1 (eL_15 49 rfl) ?_
  refine u_aload0 (eL_16 0 rfl) ?_
  refine u_iload3 (eL_16 1 rfl) ?_
  refine u_iconst (eL_16 2 rfl) zk_iconst_1 ?_
  refine u_iadd (eL_16 3 rfl) ?_
  refine u_sld hv.1 (eL_16 4 rfl) ?_
  refine u_aload0 (eL_16 5 rfl) ?_
  refine u_iload3 (eL_16 6 rfl) ?_
  refine u_iconst (eL_16 7 rfl) zk_iconst_2 ?_
  refine u_iadd (eL_16 8 rfl) ?_
  refine u_sld hv.2.1 (eL_16 9 rfl) ?_
  obtain ⟨r, hx', hm', e1, e2, hI'⟩ := hS k hx hm (xs (x3 + 1).toNatClampNeg) (xs (x3 + 2).toNatClampNeg) hk hI
  have hB1 := hB k hx hm (Nat.le_of_lt hk) hI
  have hB2 := hB (k + 1) hx' hm' hk hI'
  have hle : zLe hm hm' := ((cX12_walls_ok l hm 0 (xs (x3 + 1).toNatClampNeg) (xs (x3 + 2).toNatClampNeg)) (zoI (r, hm')) (by rw [e2]; rfl)).1
  refine u_callV (ai := [(xs (x3 + 1).toNatClampNeg), (xs (x3 + 2).toNatClampNeg)]) (rest := []) (cv1 := zoI) (cX11_walls_ok l hx 0 (xs (x3 + 1).toNatClampNeg) (xs (x3 + 2).toNatClampNeg)) e1 hB1.1 (fun _ => rfl) ⟨(by have q1 := hle.1; have q2 := hB2.2.2.1; show zN hx' + zN hm ≤ _; omega), (by have q1 := hle.2.1; have q2 := hB2.2.2.2; show zS hx' + zS hm ≤ _; omega)⟩ rfl (by decide) zcd_X11_walls rfl ⟨zw_718, zw_719, zw_720, zw_57⟩ ⟨Nat.le_of_ble_eq_true rfl, Nat.le_of_ble_eq_true rfl⟩ rfl (Nat.le_of_ble_eq_true rfl) (eL_16 10 rfl) ?_
  refine u_aload2 (eL_16 11 rfl) ?_
  refine u_aload0 (eL_16 12 rfl) ?_
  refine u_iload3 (eL_16 13 rfl) ?_
  refine u_iconst (eL_16 14 rfl) zk_iconst_1 ?_
  refine u_iadd (eL_16 15 rfl) ?_
  refine u_sld hv.1 (eL_16 16 rfl) ?_
  refine u_aload0 (eL_16 17 rfl) ?_
  refine u_iload3 (eL_16 18 rfl) ?_
  refine u_iconst (eL_16 19 rfl) zk_iconst_2 ?_
  refine u_iadd (eL_16 20 rfl) ?_
  refine u_sld hv.2.1 (eL_16 21 rfl) ?_
  refine u_swap ?_
  refine u_callV (ai := [(xs (x3 + 1).toNatClampNeg), (xs (x3 + 2).toNatClampNeg)]) (rest := [.int r]) (cv1 := zoI) (cX12_walls_ok l hm 0 (xs (x3 + 1).toNatClampNeg) (xs (x3 + 2).toNatClampNeg)) e2 hB1.2.1 (fun _ => rfl) ⟨(by have q2 := hB2.2.2.1; show zN hm' + zN hx' ≤ _; omega), (by have q2 := hB2.2.2.2; show zS hm' + zS hx' ≤ _; omega)⟩ rfl (by decide) zcd_X12_walls rfl ⟨zw_1437, zw_1438, zw_1439, zw_62⟩ ⟨Nat.le_of_ble_eq_true rfl, Nat.le_of_ble_eq_true rfl⟩ rfl (Nat.le_of_ble_eq_true rfl) (eL_16 22 rfl) ?_
  refine u_swap ?_
  exact u_eqT (eL_16 23 rfl) (t := 1905) (by decide) (K _ _ hI')
theorem lc_exchange {p : Program} {l : Launch} {e : Env} {s : State} {m : MethodId} {below : List Frame} {meth : Method} {c : Code} {b L : Nat} {xs : Nat → Int32} {D : va_G} {cA : Nat → ClassId} {la lb : Nat} {x3 : Int32} {Inv : Nat → Zh → Zh → Prop} (hS : zS_exchange Inv) (hB : zBd Inv) {k : Nat} {hx hm : Zh} (hk : k < 512) (hv : zvi x3 L) (hI : Inv k hx hm) (K : ∀ hx' hm', Inv (k + 1) hx' hm' → U p l e s m below meth c b L xs D cA la lb x3 la lb 1905 [] hx' hm') : U p l e s m below meth c b L xs D cA la lb x3 la lb 1164 [] hx hm := by
  refine u_aload1 (eL_16 26 rfl) ?_
  refine u_aload0 (eL_16 27 rfl) ?_
  refine u_iload3 (eL_16 28 rfl) ?_
  refine u_iconst (eL_16 29 rfl) zk_iconst_1 ?_
  refine u_iadd (eL_16 30 rfl) ?_
  refine u_sld hv.1 (eL_16 31 rfl) ?_
  refine u_aload0 (eL_16 32 rfl) ?_
  refine u_iload3 (eL_16 33 rfl) ?_
  refine u_iconst (eL_16 34 rfl) zk_iconst_2 ?_
  refine u_iadd (eL_16 35 rfl) ?_
  refine u_sld hv.2.1 (eL_16 36 rfl) ?_
  refine u_aload0 (eL_16 37 rfl) ?_
  refine u_iload3 (eL_16 38 rfl) ?_
  refine u_iconst (eL_16 39 rfl) zk_iconst_3 ?_
  refine u_iadd (eL_16 40 rfl) ?_
  refine u_sld hv.2.2.1 (eL_16 41 rfl) ?_
  obtain ⟨r, hx', hm', e1, e2, hI'⟩ := hS k hx hm (xs (x3 + 1).toNatClampNeg) (xs (x3 + 2).toNatClampNeg) (xs (x3 + 3).toNatClampNeg) hk hI
  have hB1 := hB k hx hm (Nat.le_of_lt hk) hI
  have hB2 := hB (k + 1) hx' hm' hk hI'
  have hle : zLe hm hm' := ((cX12_exchange_ok l hm 0 (xs (x3 + 1).toNatClampNeg) (xs (x3 + 2).toNatClampNeg) (xs (x3 + 3).toNatClampNeg)) (zoI (r, hm')) (by rw [e2]; rfl)).1
  refine u_callV (ai := [(xs (x3 + 1).toNatClampNeg), (xs (x3 + 2).toNatClampNeg), (xs (x3 + 3).toNatClampNeg)]) (rest := []) (cv1 := zoI) (cX11_exchange_ok l hx 0 (xs (x3 + 1).toNatClampNeg) (xs (x3 + 2).toNatClampNeg) (xs (x3 + 3).toNatClampNeg)) e1 hB1.1 (fun _ => rfl) ⟨(by have q1 := hle.1; have q2 := hB2.2.2.1; show zN hx' + zN hm ≤ _; omega), (by have q1 := hle.2.1; have q2 := hB2.2.2.2; show zS hx' + zS hm ≤ _; omega)⟩ rfl (by decide) zcd_X11_exchange rfl ⟨zw_731, zw_732, zw_733, zw_57⟩ ⟨Nat.le_of_ble_eq_true rfl, Nat.le_of_ble_eq_true rfl⟩ rfl (Nat.le_of_ble_eq_true rfl) (eL_16 42 rfl) ?_
  refine u_aload2 (eL_16 43 rfl) ?_
  refine u_aload0 (eL_16 44 rfl) ?_
  refine u_iload3 (eL_16 45 rfl) ?_
  refine u_iconst (eL_16 46 rfl) zk_iconst_1 ?_
  refine u_iadd (eL_16 47 rfl) ?_
  refine u_sld hv.1 (eL_16 48 rfl) ?_
  refine u_aload0 (eL_16 49 rfl) ?_
  refine u_iload3 (eL_17 0 rfl) ?_
  refine u_iconst (eL_17 1 rfl) zk_iconst_2 ?_
  refine u_iadd (eL_17 2 rfl) ?_
  refine u_sld hv.2.1 (eL_17 3 rfl) ?_
  refine u_aload0 (eL_17 4 rfl) ?_
  refine u_iload3 (eL_17 5 rfl) ?_
  refine u_iconst (eL_17 6 rfl) zk_iconst_3 ?_
  refine u_iadd (eL_17 7 rfl) ?_
  refine u_sld hv.2.2.1 (eL_17 8 rfl) ?_
  refine u_swap ?_
  refine u_callV (ai := [(xs (x3 + 1).toNatClampNeg), (xs (x3 + 2).toNatClampNeg), (xs (x3 + 3).toNatClampNeg)]) (rest := [.int r]) (cv1 := zoI) (cX12_exchange_ok l hm 0 (xs (x3 + 1).toNatClampNeg) (xs (x3 + 2).toNatClampNeg) (xs (x3 + 3).toNatClampNeg)) e2 hB1.2.1 (fun _ => rfl) ⟨(by have q2 := hB2.2.2.1; show zN hm' + zN hx' ≤ _; omega), (by have q2 := hB2.2.2.2; show zS hm' + zS hx' ≤ _; omega)⟩ rfl (by decide) zcd_X12_exchange rfl ⟨zw_1441, zw_1442, zw_1443, zw_62⟩ ⟨Nat.le_of_ble_eq_true rfl, Nat.le_of_ble_eq_true rfl⟩ rfl (Nat.le_of_ble_eq_true rfl) (eL_17 9 rfl) ?_
  refine u_swap ?_
  exact u_eqT (eL_17 10 rfl) (t := 1905) (by decide) (K _ _ hI')
theorem lc_add {p : Program} {l : Launch} {e : Env} {s : State} {m : MethodId} {below : List Frame} {meth : Method} {c : Code} {b L : Nat} {xs : Nat → Int32} {D : va_G} {cA : Nat → ClassId} {la lb : Nat} {x3 : Int32} {Inv : Nat → Zh → Zh → Prop} (hS : zS_add Inv) (hB : zBd Inv) {k : Nat} {hx hm : Zh} (hk : k < 512) (hv : zvi x3 L) (hI : Inv k hx hm) (K : ∀ hx' hm', Inv (k + 1) hx' hm' → U p l e s m below meth c b L xs D cA la lb x3 la lb 1905 [] hx' hm') : U p l e s m below meth c b L xs D cA la lb x3 la lb 1207 [] hx hm := by
  refine u_aload1 (eL_17 13 rfl) ?_
  refine u_aload0 (eL_17 14 rfl) ?_
  refine u_iload3 (eL_17 15 rfl) ?_
  refine u_iconst (eL_17 16 rfl) zk_iconst_1 ?_
  refine u_iadd (eL_17 17 rfl) ?_
  refine u_sld hv.1 (eL_17 18 rfl) ?_
  refine u_aload0 (eL_17 19 rfl) ?_
  refine u_iload3 (eL_17 20 rfl) ?_
  refine u_iconst (eL_17 21 rfl) zk_iconst_2 ?_
  refine u_iadd (eL_17 22 rfl) ?_
  refine u_sld hv.2.1 (eL_17 23 rfl) ?_
  refine u_aload0 (eL_17 24 rfl) ?_
  refine u_iload3 (eL_17 25 rfl) ?_
  refine u_iconst (eL_17 26 rfl) zk_iconst_3 ?_
  refine u_iadd (eL_17 27 rfl) ?_
  refine u_sld hv.2.2.1 (eL_17 28 rfl) ?_
  refine u_aload0 (eL_17 29 rfl) ?_
  refine u_iload3 (eL_17 30 rfl) ?_
  refine u_iconst (eL_17 31 rfl) zk_iconst_4 ?_
  refine u_iadd (eL_17 32 rfl) ?_
  refine u_sld hv.2.2.2.1 (eL_17 33 rfl) ?_
  refine u_aload0 (eL_17 34 rfl) ?_
  refine u_iload3 (eL_17 35 rfl) ?_
  refine u_iconst (eL_17 36 rfl) zk_iconst_5 ?_
  refine u_iadd (eL_17 37 rfl) ?_
  refine u_sld hv.2.2.2.2.1 (eL_17 38 rfl) ?_
  obtain ⟨r, hx', hm', e1, e2, hI'⟩ := hS k hx hm (xs (x3 + 1).toNatClampNeg) (xs (x3 + 2).toNatClampNeg) (xs (x3 + 3).toNatClampNeg) (xs (x3 + 4).toNatClampNeg) (xs (x3 + 5).toNatClampNeg) hk hI
  have hB1 := hB k hx hm (Nat.le_of_lt hk) hI
  have hB2 := hB (k + 1) hx' hm' hk hI'
  have hle : zLe hm hm' := ((cX12_add_ok l hm 0 (xs (x3 + 1).toNatClampNeg) (xs (x3 + 2).toNatClampNeg) (xs (x3 + 3).toNatClampNeg) (xs (x3 + 4).toNatClampNeg) (xs (x3 + 5).toNatClampNeg)) (zoI (r, hm')) (by rw [e2]; rfl)).1
  refine u_callV (ai := [(xs (x3 + 1).toNatClampNeg), (xs (x3 + 2).toNatClampNeg), (xs (x3 + 3).toNatClampNeg), (xs (x3 + 4).toNatClampNeg), (xs (x3 + 5).toNatClampNeg)]) (rest := []) (cv1 := zoI) (cX11_add_ok l hx 0 (xs (x3 + 1).toNatClampNeg) (xs (x3 + 2).toNatClampNeg) (xs (x3 + 3).toNatClampNeg) (xs (x3 + 4).toNatClampNeg) (xs (x3 + 5).toNatClampNeg)) e1 hB1.1 (fun _ => rfl) ⟨(by have q1 := hle.1; have q2 := hB2.2.2.1; show zN hx' + zN hm ≤ _; omega), (by have q1 := hle.2.1; have q2 := hB2.2.2.2; show zS hx' + zS hm ≤ _; omega)⟩ rfl (by decide) zcd_X11_add rfl ⟨zw_744, zw_745, zw_746, zw_57⟩ ⟨Nat.le_of_ble_eq_true rfl, Nat.le_of_ble_eq_true rfl⟩ rfl (Nat.le_of_ble_eq_true rfl) (eL_17 39 rfl) ?_
  refine u_aload2 (eL_17 40 rfl) ?_
  refine u_aload0 (eL_17 41 rfl) ?_
  refine u_iload3 (eL_17 42 rfl) ?_
  refine u_iconst (eL_17 43 rfl) zk_iconst_1 ?_
  refine u_iadd (eL_17 44 rfl) ?_
  refine u_sld hv.1 (eL_17 45 rfl) ?_
  refine u_aload0 (eL_17 46 rfl) ?_
  refine u_iload3 (eL_17 47 rfl) ?_
  refine u_iconst (eL_17 48 rfl) zk_iconst_2 ?_
  refine u_iadd (eL_17 49 rfl) ?_
  refine u_sld hv.2.1 (eL_18 0 rfl) ?_
  refine u_aload0 (eL_18 1 rfl) ?_
  refine u_iload3 (eL_18 2 rfl) ?_
  refine u_iconst (eL_18 3 rfl) zk_iconst_3 ?_
  refine u_iadd (eL_18 4 rfl) ?_
  refine u_sld hv.2.2.1 (eL_18 5 rfl) ?_
  refine u_aload0 (eL_18 6 rfl) ?_
  refine u_iload3 (eL_18 7 rfl) ?_
  refine u_iconst (eL_18 8 rfl) zk_iconst_4 ?_
  refine u_iadd (eL_18 9 rfl) ?_
  refine u_sld hv.2.2.2.1 (eL_18 10 rfl) ?_
  refine u_aload0 (eL_18 11 rfl) ?_
  refine u_iload3 (eL_18 12 rfl) ?_
  refine u_iconst (eL_18 13 rfl) zk_iconst_5 ?_
  refine u_iadd (eL_18 14 rfl) ?_
  refine u_sld hv.2.2.2.2.1 (eL_18 15 rfl) ?_
  refine u_swap ?_
  refine u_callV (ai := [(xs (x3 + 1).toNatClampNeg), (xs (x3 + 2).toNatClampNeg), (xs (x3 + 3).toNatClampNeg), (xs (x3 + 4).toNatClampNeg), (xs (x3 + 5).toNatClampNeg)]) (rest := [.int r]) (cv1 := zoI) (cX12_add_ok l hm 0 (xs (x3 + 1).toNatClampNeg) (xs (x3 + 2).toNatClampNeg) (xs (x3 + 3).toNatClampNeg) (xs (x3 + 4).toNatClampNeg) (xs (x3 + 5).toNatClampNeg)) e2 hB1.2.1 (fun _ => rfl) ⟨(by have q2 := hB2.2.2.1; show zN hm' + zN hx' ≤ _; omega), (by have q2 := hB2.2.2.2; show zS hm' + zS hx' ≤ _; omega)⟩ rfl (by decide) zcd_X12_add rfl ⟨zw_1453, zw_1454, zw_1455, zw_62⟩ ⟨Nat.le_of_ble_eq_true rfl, Nat.le_of_ble_eq_true rfl⟩ rfl (Nat.le_of_ble_eq_true rfl) (eL_18 16 rfl) ?_
  refine u_swap ?_
  exact u_eqT (eL_18 17 rfl) (t := 1905) (by decide) (K _ _ hI')
theorem lc_clear {p : Program} {l : Launch} {e : Env} {s : State} {m : MethodId} {below : List Frame} {meth : Method} {c : Code} {b L : Nat} {xs : Nat → Int32} {D : va_G} {cA : Nat → ClassId} {la lb : Nat} {x3 : Int32} {Inv : Nat → Zh → Zh → Prop} (hS : zS_clear Inv) (hB : zBd Inv) {k : Nat} {hx hm : Zh} (hk : k < 512) (hv : zvi x3 L) (hI : Inv k hx hm) (K : ∀ hx' hm', Inv (k + 1) hx' hm' → U p l e s m below meth c b L xs D cA la lb x3 la lb 1905 [] hx' hm') : U p l e s m below meth c b L xs D cA la lb x3 la lb 1270 [] hx hm := by
  refine u_aload1 (eL_18 20 rfl) ?_
  refine u_aload0 (eL_18 21 rfl) ?_
  refine u_iload3 (eL_18 22 rfl) ?_
  refine u_iconst (eL_18 23 rfl) zk_iconst_1 ?_
  refine u_iadd (eL_18 24 rfl) ?_
  refine u_sld hv.1 (eL_18 25 rfl) ?_
  obtain ⟨r, hx', hm', e1, e2, hI'⟩ := hS k hx hm (xs (x3 + 1).toNatClampNeg) hk hI
  have hB1 := hB k hx hm (Nat.le_of_lt hk) hI
  have hB2 := hB (k + 1) hx' hm' hk hI'
  have hle : zLe hm hm' := ((cX12_clear_ok l hm 0 (xs (x3 + 1).toNatClampNeg)) (zoI (r, hm')) (by rw [e2]; rfl)).1
  refine u_callV (ai := [(xs (x3 + 1).toNatClampNeg)]) (rest := []) (cv1 := zoI) (cX11_clear_ok l hx 0 (xs (x3 + 1).toNatClampNeg)) e1 hB1.1 (fun _ => rfl) ⟨(by have q1 := hle.1; have q2 := hB2.2.2.1; show zN hx' + zN hm ≤ _; omega), (by have q1 := hle.2.1; have q2 := hB2.2.2.2; show zS hx' + zS hm ≤ _; omega)⟩ rfl (by decide) zcd_X11_clear rfl ⟨zw_851, zw_852, zw_853, zw_57⟩ ⟨Nat.le_of_ble_eq_true rfl, Nat.le_of_ble_eq_true rfl⟩ rfl (Nat.le_of_ble_eq_true rfl) (eL_18 26 rfl) ?_
  refine u_aload2 (eL_18 27 rfl) ?_
  refine u_aload0 (eL_18 28 rfl) ?_
  refine u_iload3 (eL_18 29 rfl) ?_
  refine u_iconst (eL_18 30 rfl) zk_iconst_1 ?_
  refine u_iadd (eL_18 31 rfl) ?_
  refine u_sld hv.1 (eL_18 32 rfl) ?_
  refine u_swap ?_
  refine u_callV (ai := [(xs (x3 + 1).toNatClampNeg)]) (rest := [.int r]) (cv1 := zoI) (cX12_clear_ok l hm 0 (xs (x3 + 1).toNatClampNeg)) e2 hB1.2.1 (fun _ => rfl) ⟨(by have q2 := hB2.2.2.1; show zN hm' + zN hx' ≤ _; omega), (by have q2 := hB2.2.2.2; show zS hm' + zS hx' ≤ _; omega)⟩ rfl (by decide) zcd_X12_clear rfl ⟨zw_1485, zw_1486, zw_1487, zw_62⟩ ⟨Nat.le_of_ble_eq_true rfl, Nat.le_of_ble_eq_true rfl⟩ rfl (Nat.le_of_ble_eq_true rfl) (eL_18 33 rfl) ?_
  refine u_swap ?_
  exact u_eqT (eL_18 34 rfl) (t := 1905) (by decide) (K _ _ hI')
theorem lc_asChain {p : Program} {l : Launch} {e : Env} {s : State} {m : MethodId} {below : List Frame} {meth : Method} {c : Code} {b L : Nat} {xs : Nat → Int32} {D : va_G} {cA : Nat → ClassId} {la lb : Nat} {x3 : Int32} {Inv : Nat → Zh → Zh → Prop} (hS : zS_asChain Inv) (hB : zBd Inv) {k : Nat} {hx hm : Zh} (hk : k < 512) (hv : zvi x3 L) (hI : Inv k hx hm) (K : ∀ hx' hm', Inv (k + 1) hx' hm' → U p l e s m below meth c b L xs D cA la lb x3 la lb 1905 [] hx' hm') : U p l e s m below meth c b L xs D cA la lb x3 la lb 1293 [] hx hm := by
  refine u_aload1 (eL_18 37 rfl) ?_
  refine u_aload0 (eL_18 38 rfl) ?_
  refine u_iload3 (eL_18 39 rfl) ?_
  refine u_iconst (eL_18 40 rfl) zk_iconst_1 ?_
  refine u_iadd (eL_18 41 rfl) ?_
  refine u_sld hv.1 (eL_18 42 rfl) ?_
  obtain ⟨r, hx', hm', e1, e2, hI'⟩ := hS k hx hm (xs (x3 + 1).toNatClampNeg) hk hI
  have hB1 := hB k hx hm (Nat.le_of_lt hk) hI
  have hB2 := hB (k + 1) hx' hm' hk hI'
  have hle : zLe hm hm' := ((cX12_asChain_ok l hm 0 (xs (x3 + 1).toNatClampNeg)) (zoI (r, hm')) (by rw [e2]; rfl)).1
  refine u_callV (ai := [(xs (x3 + 1).toNatClampNeg)]) (rest := []) (cv1 := zoI) (cX11_asChain_ok l hx 0 (xs (x3 + 1).toNatClampNeg)) e1 hB1.1 (fun _ => rfl) ⟨(by have q1 := hle.1; have q2 := hB2.2.2.1; show zN hx' + zN hm ≤ _; omega), (by have q1 := hle.2.1; have q2 := hB2.2.2.2; show zS hx' + zS hm ≤ _; omega)⟩ rfl (by decide) zcd_X11_asChain rfl ⟨zw_857, zw_858, zw_859, zw_57⟩ ⟨Nat.le_of_ble_eq_true rfl, Nat.le_of_ble_eq_true rfl⟩ rfl (Nat.le_of_ble_eq_true rfl) (eL_18 43 rfl) ?_
  refine u_aload2 (eL_18 44 rfl) ?_
  refine u_aload0 (eL_18 45 rfl) ?_
  refine u_iload3 (eL_18 46 rfl) ?_
  refine u_iconst (eL_18 47 rfl) zk_iconst_1 ?_
  refine u_iadd (eL_18 48 rfl) ?_
  refine u_sld hv.1 (eL_18 49 rfl) ?_
  refine u_swap ?_
  refine u_callV (ai := [(xs (x3 + 1).toNatClampNeg)]) (rest := [.int r]) (cv1 := zoI) (cX12_asChain_ok l hm 0 (xs (x3 + 1).toNatClampNeg)) e2 hB1.2.1 (fun _ => rfl) ⟨(by have q2 := hB2.2.2.1; show zN hm' + zN hx' ≤ _; omega), (by have q2 := hB2.2.2.2; show zS hm' + zS hx' ≤ _; omega)⟩ rfl (by decide) zcd_X12_asChain rfl ⟨zw_1489, zw_1490, zw_1491, zw_62⟩ ⟨Nat.le_of_ble_eq_true rfl, Nat.le_of_ble_eq_true rfl⟩ rfl (Nat.le_of_ble_eq_true rfl) (eL_19 0 rfl) ?_
  refine u_swap ?_
  exact u_eqT (eL_19 1 rfl) (t := 1905) (by decide) (K _ _ hI')
theorem lc_join {p : Program} {l : Launch} {e : Env} {s : State} {m : MethodId} {below : List Frame} {meth : Method} {c : Code} {b L : Nat} {xs : Nat → Int32} {D : va_G} {cA : Nat → ClassId} {la lb : Nat} {x3 : Int32} {Inv : Nat → Zh → Zh → Prop} (hS : zS_join Inv) (hB : zBd Inv) {k : Nat} {hx hm : Zh} (hk : k < 512) (hv : zvi x3 L) (hI : Inv k hx hm) (K : ∀ hx' hm', Inv (k + 1) hx' hm' → U p l e s m below meth c b L xs D cA la lb x3 la lb 1905 [] hx' hm') : U p l e s m below meth c b L xs D cA la lb x3 la lb 1316 [] hx hm := by
  refine u_aload1 (eL_19 4 rfl) ?_
  refine u_aload0 (eL_19 5 rfl) ?_
  refine u_iload3 (eL_19 6 rfl) ?_
  refine u_iconst (eL_19 7 rfl) zk_iconst_1 ?_
  refine u_iadd (eL_19 8 rfl) ?_
  refine u_sld hv.1 (eL_19 9 rfl) ?_
  refine u_aload0 (eL_19 10 rfl) ?_
  refine u_iload3 (eL_19 11 rfl) ?_
  refine u_iconst (eL_19 12 rfl) zk_iconst_2 ?_
  refine u_iadd (eL_19 13 rfl) ?_
  refine u_sld hv.2.1 (eL_19 14 rfl) ?_
  refine u_aload0 (eL_19 15 rfl) ?_
  refine u_iload3 (eL_19 16 rfl) ?_
  refine u_iconst (eL_19 17 rfl) zk_iconst_3 ?_
  refine u_iadd (eL_19 18 rfl) ?_
  refine u_sld hv.2.2.1 (eL_19 19 rfl) ?_
  refine u_aload0 (eL_19 20 rfl) ?_
  refine u_iload3 (eL_19 21 rfl) ?_
  refine u_iconst (eL_19 22 rfl) zk_iconst_4 ?_
  refine u_iadd (eL_19 23 rfl) ?_
  refine u_sld hv.2.2.2.1 (eL_19 24 rfl) ?_
  obtain ⟨r, hx', hm', e1, e2, hI'⟩ := hS k hx hm (xs (x3 + 1).toNatClampNeg) (xs (x3 + 2).toNatClampNeg) (xs (x3 + 3).toNatClampNeg) (xs (x3 + 4).toNatClampNeg) hk hI
  have hB1 := hB k hx hm (Nat.le_of_lt hk) hI
  have hB2 := hB (k + 1) hx' hm' hk hI'
  have hle : zLe hm hm' := ((cX12_join_ok l hm 0 (xs (x3 + 1).toNatClampNeg) (xs (x3 + 2).toNatClampNeg) (xs (x3 + 3).toNatClampNeg) (xs (x3 + 4).toNatClampNeg)) (zoI (r, hm')) (by rw [e2]; rfl)).1
  refine u_callV (ai := [(xs (x3 + 1).toNatClampNeg), (xs (x3 + 2).toNatClampNeg), (xs (x3 + 3).toNatClampNeg), (xs (x3 + 4).toNatClampNeg)]) (rest := []) (cv1 := zoI) (cX11_join_ok l hx 0 (xs (x3 + 1).toNatClampNeg) (xs (x3 + 2).toNatClampNeg) (xs (x3 + 3).toNatClampNeg) (xs (x3 + 4).toNatClampNeg)) e1 hB1.1 (fun _ => rfl) ⟨(by have q1 := hle.1; have q2 := hB2.2.2.1; show zN hx' + zN hm ≤ _; omega), (by have q1 := hle.2.1; have q2 := hB2.2.2.2; show zS hx' + zS hm ≤ _; omega)⟩ rfl (by decide) zcd_X11_join rfl ⟨zw_867, zw_868, zw_869, zw_57⟩ ⟨Nat.le_of_ble_eq_true rfl, Nat.le_of_ble_eq_true rfl⟩ rfl (Nat.le_of_ble_eq_true rfl) (eL_19 25 rfl) ?_
  refine u_aload2 (eL_19 26 rfl) ?_
  refine u_aload0 (eL_19 27 rfl) ?_
  refine u_iload3 (eL_19 28 rfl) ?_
  refine u_iconst (eL_19 29 rfl) zk_iconst_1 ?_
  refine u_iadd (eL_19 30 rfl) ?_
  refine u_sld hv.1 (eL_19 31 rfl) ?_
  refine u_aload0 (eL_19 32 rfl) ?_
  refine u_iload3 (eL_19 33 rfl) ?_
  refine u_iconst (eL_19 34 rfl) zk_iconst_2 ?_
  refine u_iadd (eL_19 35 rfl) ?_
  refine u_sld hv.2.1 (eL_19 36 rfl) ?_
  refine u_aload0 (eL_19 37 rfl) ?_
  refine u_iload3 (eL_19 38 rfl) ?_
  refine u_iconst (eL_19 39 rfl) zk_iconst_3 ?_
  refine u_iadd (eL_19 40 rfl) ?_
  refine u_sld hv.2.2.1 (eL_19 41 rfl) ?_
  refine u_aload0 (eL_19 42 rfl) ?_
  refine u_iload3 (eL_19 43 rfl) ?_
  refine u_iconst (eL_19 44 rfl) zk_iconst_4 ?_
  refine u_iadd (eL_19 45 rfl) ?_
  refine u_sld hv.2.2.2.1 (eL_19 46 rfl) ?_
  refine u_swap ?_
  refine u_callV (ai := [(xs (x3 + 1).toNatClampNeg), (xs (x3 + 2).toNatClampNeg), (xs (x3 + 3).toNatClampNeg), (xs (x3 + 4).toNatClampNeg)]) (rest := [.int r]) (cv1 := zoI) (cX12_join_ok l hm 0 (xs (x3 + 1).toNatClampNeg) (xs (x3 + 2).toNatClampNeg) (xs (x3 + 3).toNatClampNeg) (xs (x3 + 4).toNatClampNeg)) e2 hB1.2.1 (fun _ => rfl) ⟨(by have q2 := hB2.2.2.1; show zN hm' + zN hx' ≤ _; omega), (by have q2 := hB2.2.2.2; show zS hm' + zS hx' ≤ _; omega)⟩ rfl (by decide) zcd_X12_join rfl ⟨zw_1497, zw_1498, zw_1499, zw_62⟩ ⟨Nat.le_of_ble_eq_true rfl, Nat.le_of_ble_eq_true rfl⟩ rfl (Nat.le_of_ble_eq_true rfl) (eL_19 47 rfl) ?_
  refine u_swap ?_
  exact u_eqT (eL_19 48 rfl) (t := 1905) (by decide) (K _ _ hI')
theorem lc_shift {p : Program} {l : Launch} {e : Env} {s : State} {m : MethodId} {below : List Frame} {meth : Method} {c : Code} {b L : Nat} {xs : Nat → Int32} {D : va_G} {cA : Nat → ClassId} {la lb : Nat} {x3 : Int32} {Inv : Nat → Zh → Zh → Prop} (hS : zS_shift Inv) (hB : zBd Inv) {k : Nat} {hx hm : Zh} (hk : k < 512) (hv : zvi x3 L) (hI : Inv k hx hm) (K : ∀ hx' hm', Inv (k + 1) hx' hm' → U p l e s m below meth c b L xs D cA la lb x3 la lb 1905 [] hx' hm') : U p l e s m below meth c b L xs D cA la lb x3 la lb 1369 [] hx hm := by
  refine u_aload1 (eL_20 1 rfl) ?_
  refine u_aload0 (eL_20 2 rfl) ?_
  refine u_iload3 (eL_20 3 rfl) ?_
  refine u_iconst (eL_20 4 rfl) zk_iconst_1 ?_
  refine u_iadd (eL_20 5 rfl) ?_
  refine u_sld hv.1 (eL_20 6 rfl) ?_
  refine u_aload0 (eL_20 7 rfl) ?_
  refine u_iload3 (eL_20 8 rfl) ?_
  refine u_iconst (eL_20 9 rfl) zk_iconst_2 ?_
  refine u_iadd (eL_20 10 rfl) ?_
  refine u_sld hv.2.1 (eL_20 11 rfl) ?_
  refine u_aload0 (eL_20 12 rfl) ?_
  refine u_iload3 (eL_20 13 rfl) ?_
  refine u_iconst (eL_20 14 rfl) zk_iconst_3 ?_
  refine u_iadd (eL_20 15 rfl) ?_
  refine u_sld hv.2.2.1 (eL_20 16 rfl) ?_
  obtain ⟨r, hx', hm', e1, e2, hI'⟩ := hS k hx hm (xs (x3 + 1).toNatClampNeg) (xs (x3 + 2).toNatClampNeg) (xs (x3 + 3).toNatClampNeg) hk hI
  have hB1 := hB k hx hm (Nat.le_of_lt hk) hI
  have hB2 := hB (k + 1) hx' hm' hk hI'
  have hle : zLe hm hm' := ((cX12_shift_ok l hm 0 (xs (x3 + 1).toNatClampNeg) (xs (x3 + 2).toNatClampNeg) (xs (x3 + 3).toNatClampNeg)) (zoI (r, hm')) (by rw [e2]; rfl)).1
  refine u_callV (ai := [(xs (x3 + 1).toNatClampNeg), (xs (x3 + 2).toNatClampNeg), (xs (x3 + 3).toNatClampNeg)]) (rest := []) (cv1 := zoI) (cX11_shift_ok l hx 0 (xs (x3 + 1).toNatClampNeg) (xs (x3 + 2).toNatClampNeg) (xs (x3 + 3).toNatClampNeg)) e1 hB1.1 (fun _ => rfl) ⟨(by have q1 := hle.1; have q2 := hB2.2.2.1; show zN hx' + zN hm ≤ _; omega), (by have q1 := hle.2.1; have q2 := hB2.2.2.2; show zS hx' + zS hm ≤ _; omega)⟩ rfl (by decide) zcd_X11_shift rfl ⟨zw_905, zw_906, zw_907, zw_57⟩ ⟨Nat.le_of_ble_eq_true rfl, Nat.le_of_ble_eq_true rfl⟩ rfl (Nat.le_of_ble_eq_true rfl) (eL_20 17 rfl) ?_
  refine u_aload2 (eL_20 18 rfl) ?_
  refine u_aload0 (eL_20 19 rfl) ?_
  refine u_iload3 (eL_20 20 rfl) ?_
  refine u_iconst (eL_20 21 rfl) zk_iconst_1 ?_
  refine u_iadd (eL_20 22 rfl) ?_
  refine u_sld hv.1 (eL_20 23 rfl) ?_
  refine u_aload0 (eL_20 24 rfl) ?_
  refine u_iload3 (eL_20 25 rfl) ?_
  refine u_iconst (eL_20 26 rfl) zk_iconst_2 ?_
  refine u_iadd (eL_20 27 rfl) ?_
  refine u_sld hv.2.1 (eL_20 28 rfl) ?_
  refine u_aload0 (eL_20 29 rfl) ?_
  refine u_iload3 (eL_20 30 rfl) ?_
  refine u_iconst (eL_20 31 rfl) zk_iconst_3 ?_
  refine u_iadd (eL_20 32 rfl) ?_
  refine u_sld hv.2.2.1 (eL_20 33 rfl) ?_
  refine u_swap ?_
  refine u_callV (ai := [(xs (x3 + 1).toNatClampNeg), (xs (x3 + 2).toNatClampNeg), (xs (x3 + 3).toNatClampNeg)]) (rest := [.int r]) (cv1 := zoI) (cX12_shift_ok l hm 0 (xs (x3 + 1).toNatClampNeg) (xs (x3 + 2).toNatClampNeg) (xs (x3 + 3).toNatClampNeg)) e2 hB1.2.1 (fun _ => rfl) ⟨(by have q2 := hB2.2.2.1; show zN hm' + zN hx' ≤ _; omega), (by have q2 := hB2.2.2.2; show zS hm' + zS hx' ≤ _; omega)⟩ rfl (by decide) zcd_X12_shift rfl ⟨zw_1508, zw_1509, zw_1510, zw_62⟩ ⟨Nat.le_of_ble_eq_true rfl, Nat.le_of_ble_eq_true rfl⟩ rfl (Nat.le_of_ble_eq_true rfl) (eL_20 34 rfl) ?_
  refine u_swap ?_
  exact u_eqT (eL_20 35 rfl) (t := 1905) (by decide) (K _ _ hI')
theorem lc_word {p : Program} {l : Launch} {e : Env} {s : State} {m : MethodId} {below : List Frame} {meth : Method} {c : Code} {b L : Nat} {xs : Nat → Int32} {D : va_G} {cA : Nat → ClassId} {la lb : Nat} {x3 : Int32} {Inv : Nat → Zh → Zh → Prop} (hS : zS_word Inv) (hB : zBd Inv) {k : Nat} {hx hm : Zh} (hk : k < 512) (hv : zvi x3 L) (hI : Inv k hx hm) (K : ∀ hx' hm', Inv (k + 1) hx' hm' → U p l e s m below meth c b L xs D cA la lb x3 la lb 1905 [] hx' hm') : U p l e s m below meth c b L xs D cA la lb x3 la lb 1412 [] hx hm := by
  refine u_aload1 (eL_20 38 rfl) ?_
  refine u_aload0 (eL_20 39 rfl) ?_
  refine u_iload3 (eL_20 40 rfl) ?_
  refine u_iconst (eL_20 41 rfl) zk_iconst_1 ?_
  refine u_iadd (eL_20 42 rfl) ?_
  refine u_sld hv.1 (eL_20 43 rfl) ?_
  refine u_aload0 (eL_20 44 rfl) ?_
  refine u_iload3 (eL_20 45 rfl) ?_
  refine u_iconst (eL_20 46 rfl) zk_iconst_2 ?_
  refine u_iadd (eL_20 47 rfl) ?_
  refine u_sld hv.2.1 (eL_20 48 rfl) ?_
  refine u_aload0 (eL_20 49 rfl) ?_
  refine u_iload3 (eL_21 0 rfl) ?_
  refine u_iconst (eL_21 1 rfl) zk_iconst_3 ?_
  refine u_iadd (eL_21 2 rfl) ?_
  refine u_sld hv.2.2.1 (eL_21 3 rfl) ?_
  obtain ⟨r, e1, e2, hI'⟩ := hS k hx hm (xs (x3 + 1).toNatClampNeg) (xs (x3 + 2).toNatClampNeg) (xs (x3 + 3).toNatClampNeg) hk hI
  have hB1 := hB k hx hm (Nat.le_of_lt hk) hI
  have hB2 := hB (k + 1) hx hm hk hI'
  have hle : zLe hm hm := ((cX12_word_ok l hm 0 (xs (x3 + 1).toNatClampNeg) (xs (x3 + 2).toNatClampNeg) (xs (x3 + 3).toNatClampNeg)) ((zoj hm) r) (by rw [e2]; rfl)).1
  refine u_callV (ai := [(xs (x3 + 1).toNatClampNeg), (xs (x3 + 2).toNatClampNeg), (xs (x3 + 3).toNatClampNeg)]) (rest := []) (cv1 := (zoj hx)) (cX11_word_ok l hx 0 (xs (x3 + 1).toNatClampNeg) (xs (x3 + 2).toNatClampNeg) (xs (x3 + 3).toNatClampNeg)) e1 hB1.1 (fun _ => rfl) ⟨(by have q1 := hle.1; have q2 := hB2.2.2.1; show zN hx + zN hm ≤ _; omega), (by have q1 := hle.2.1; have q2 := hB2.2.2.2; show zS hx + zS hm ≤ _; omega)⟩ rfl (by decide) zcd_X11_word rfl ⟨zw_918, zw_919, zw_920, zw_57⟩ ⟨Nat.le_of_ble_eq_true rfl, Nat.le_of_ble_eq_true rfl⟩ rfl (Nat.le_of_ble_eq_true rfl) (eL_21 4 rfl) ?_
  refine u_aload2 (eL_21 5 rfl) ?_
  refine u_aload0 (eL_21 6 rfl) ?_
  refine u_iload3 (eL_21 7 rfl) ?_
  refine u_iconst (eL_21 8 rfl) zk_iconst_1 ?_
  refine u_iadd (eL_21 9 rfl) ?_
  refine u_sld hv.1 (eL_21 10 rfl) ?_
  refine u_aload0 (eL_21 11 rfl) ?_
  refine u_iload3 (eL_21 12 rfl) ?_
  refine u_iconst (eL_21 13 rfl) zk_iconst_2 ?_
  refine u_iadd (eL_21 14 rfl) ?_
  refine u_sld hv.2.1 (eL_21 15 rfl) ?_
  refine u_aload0 (eL_21 16 rfl) ?_
  refine u_iload3 (eL_21 17 rfl) ?_
  refine u_iconst (eL_21 18 rfl) zk_iconst_3 ?_
  refine u_iadd (eL_21 19 rfl) ?_
  refine u_sld hv.2.2.1 (eL_21 20 rfl) ?_
  refine u_swap ?_
  refine u_callV (ai := [(xs (x3 + 1).toNatClampNeg), (xs (x3 + 2).toNatClampNeg), (xs (x3 + 3).toNatClampNeg)]) (rest := [.long r]) (cv1 := (zoj hm)) (cX12_word_ok l hm 0 (xs (x3 + 1).toNatClampNeg) (xs (x3 + 2).toNatClampNeg) (xs (x3 + 3).toNatClampNeg)) e2 hB1.2.1 (fun _ => rfl) ⟨(by have q2 := hB2.2.2.1; show zN hm + zN hx ≤ _; omega), (by have q2 := hB2.2.2.2; show zS hm + zS hx ≤ _; omega)⟩ rfl (by decide) zcd_X12_word rfl ⟨zw_1517, zw_1518, zw_1519, zw_62⟩ ⟨Nat.le_of_ble_eq_true rfl, Nat.le_of_ble_eq_true rfl⟩ rfl (Nat.le_of_ble_eq_true rfl) (eL_21 21 rfl) ?_
  refine u_swap ?_
  exact u_lcmpT (eL_21 22 rfl) (eL_21 23 rfl) (t := 1905) (by decide) (K _ _ hI')
theorem lc_words {p : Program} {l : Launch} {e : Env} {s : State} {m : MethodId} {below : List Frame} {meth : Method} {c : Code} {b L : Nat} {xs : Nat → Int32} {D : va_G} {cA : Nat → ClassId} {la lb : Nat} {x3 : Int32} {Inv : Nat → Zh → Zh → Prop} (hS : zS_words Inv) (hB : zBd Inv) {k : Nat} {hx hm : Zh} (hk : k < 512) (hv : zvi x3 L) (hI : Inv k hx hm) (K : ∀ hx' hm', Inv (k + 1) hx' hm' → U p l e s m below meth c b L xs D cA la lb x3 la lb 1905 [] hx' hm') : U p l e s m below meth c b L xs D cA la lb x3 la lb 1456 [] hx hm := by
  refine u_aload1 (eL_21 26 rfl) ?_
  refine u_aload0 (eL_21 27 rfl) ?_
  refine u_iload3 (eL_21 28 rfl) ?_
  refine u_iconst (eL_21 29 rfl) zk_iconst_1 ?_
  refine u_iadd (eL_21 30 rfl) ?_
  refine u_sld hv.1 (eL_21 31 rfl) ?_
  obtain ⟨r, e1, e2, hI'⟩ := hS k hx hm (xs (x3 + 1).toNatClampNeg) hk hI
  have hB1 := hB k hx hm (Nat.le_of_lt hk) hI
  have hB2 := hB (k + 1) hx hm hk hI'
  have hle : zLe hm hm := ((cX12_words_ok l hm 0 (xs (x3 + 1).toNatClampNeg)) ((zoi hm) r) (by rw [e2]; rfl)).1
  refine u_callV (ai := [(xs (x3 + 1).toNatClampNeg)]) (rest := []) (cv1 := (zoi hx)) (cX11_words_ok l hx 0 (xs (x3 + 1).toNatClampNeg)) e1 hB1.1 (fun _ => rfl) ⟨(by have q1 := hle.1; have q2 := hB2.2.2.1; show zN hx + zN hm ≤ _; omega), (by have q1 := hle.2.1; have q2 := hB2.2.2.2; show zS hx + zS hm ≤ _; omega)⟩ rfl (by decide) zcd_X11_words rfl ⟨zw_922, zw_923, zw_924, zw_57⟩ ⟨Nat.le_of_ble_eq_true rfl, Nat.le_of_ble_eq_true rfl⟩ rfl (Nat.le_of_ble_eq_true rfl) (eL_21 32 rfl) ?_
  refine u_aload2 (eL_21 33 rfl) ?_
  refine u_aload0 (eL_21 34 rfl) ?_
  refine u_iload3 (eL_21 35 rfl) ?_
  refine u_iconst (eL_21 36 rfl) zk_iconst_1 ?_
  refine u_iadd (eL_21 37 rfl) ?_
  refine u_sld hv.1 (eL_21 38 rfl) ?_
  refine u_swap ?_
  refine u_callV (ai := [(xs (x3 + 1).toNatClampNeg)]) (rest := [.int r]) (cv1 := (zoi hm)) (cX12_words_ok l hm 0 (xs (x3 + 1).toNatClampNeg)) e2 hB1.2.1 (fun _ => rfl) ⟨(by have q2 := hB2.2.2.1; show zN hm + zN hx ≤ _; omega), (by have q2 := hB2.2.2.2; show zS hm + zS hx ≤ _; omega)⟩ rfl (by decide) zcd_X12_words rfl ⟨zw_1521, zw_1522, zw_1523, zw_62⟩ ⟨Nat.le_of_ble_eq_true rfl, Nat.le_of_ble_eq_true rfl⟩ rfl (Nat.le_of_ble_eq_true rfl) (eL_21 39 rfl) ?_
  refine u_swap ?_
  exact u_eqT (eL_21 40 rfl) (t := 1905) (by decide) (K _ _ hI')
theorem lc_bracket {p : Program} {l : Launch} {e : Env} {s : State} {m : MethodId} {below : List Frame} {meth : Method} {c : Code} {b L : Nat} {xs : Nat → Int32} {D : va_G} {cA : Nat → ClassId} {la lb : Nat} {x3 : Int32} {Inv : Nat → Zh → Zh → Prop} (hS : zS_bracket Inv) (hB : zBd Inv) {k : Nat} {hx hm : Zh} (hk : k < 512) (hv : zvi x3 L) (hI : Inv k hx hm) (K : ∀ hx' hm', Inv (k + 1) hx' hm' → U p l e s m below meth c b L xs D cA la lb x3 la lb 1905 [] hx' hm') : U p l e s m below meth c b L xs D cA la lb x3 la lb 1479 [] hx hm := by
  refine u_aload1 (eL_21 43 rfl) ?_
  refine u_aload0 (eL_21 44 rfl) ?_
  refine u_iload3 (eL_21 45 rfl) ?_
  refine u_iconst (eL_21 46 rfl) zk_iconst_1 ?_
  refine u_iadd (eL_21 47 rfl) ?_
  refine u_sld hv.1 (eL_21 48 rfl) ?_
  refine u_aload0 (eL_21 49 rfl) ?_
  refine u_iload3 (eL_22 0 rfl) ?_
  refine u_iconst (eL_22 1 rfl) zk_iconst_2 ?_
  refine u_iadd (eL_22 2 rfl) ?_
  refine u_sld hv.2.1 (eL_22 3 rfl) ?_
  obtain ⟨r, hx', hm', e1, e2, hI'⟩ := hS k hx hm (xs (x3 + 1).toNatClampNeg) (xs (x3 + 2).toNatClampNeg) hk hI
  have hB1 := hB k hx hm (Nat.le_of_lt hk) hI
  have hB2 := hB (k + 1) hx' hm' hk hI'
  have hle : zLe hm hm' := ((cX12_bracket_ok l hm 0 (xs (x3 + 1).toNatClampNeg) (xs (x3 + 2).toNatClampNeg)) (zoI (r, hm')) (by rw [e2]; rfl)).1
  refine u_callV (ai := [(xs (x3 + 1).toNatClampNeg), (xs (x3 + 2).toNatClampNeg)]) (rest := []) (cv1 := zoI) (cX11_bracket_ok l hx 0 (xs (x3 + 1).toNatClampNeg) (xs (x3 + 2).toNatClampNeg)) e1 hB1.1 (fun _ => rfl) ⟨(by have q1 := hle.1; have q2 := hB2.2.2.1; show zN hx' + zN hm ≤ _; omega), (by have q1 := hle.2.1; have q2 := hB2.2.2.2; show zS hx' + zS hm ≤ _; omega)⟩ rfl (by decide) zcd_X11_bracket rfl ⟨zw_926, zw_927, zw_928, zw_57⟩ ⟨Nat.le_of_ble_eq_true rfl, Nat.le_of_ble_eq_true rfl⟩ rfl (Nat.le_of_ble_eq_true rfl) (eL_22 4 rfl) ?_
  refine u_aload2 (eL_22 5 rfl) ?_
  refine u_aload0 (eL_22 6 rfl) ?_
  refine u_iload3 (eL_22 7 rfl) ?_
  refine u_iconst (eL_22 8 rfl) zk_iconst_1 ?_
  refine u_iadd (eL_22 9 rfl) ?_
  refine u_sld hv.1 (eL_22 10 rfl) ?_
  refine u_aload0 (eL_22 11 rfl) ?_
  refine u_iload3 (eL_22 12 rfl) ?_
  refine u_iconst (eL_22 13 rfl) zk_iconst_2 ?_
  refine u_iadd (eL_22 14 rfl) ?_
  refine u_sld hv.2.1 (eL_22 15 rfl) ?_
  refine u_swap ?_
  refine u_callV (ai := [(xs (x3 + 1).toNatClampNeg), (xs (x3 + 2).toNatClampNeg)]) (rest := [.int r]) (cv1 := zoI) (cX12_bracket_ok l hm 0 (xs (x3 + 1).toNatClampNeg) (xs (x3 + 2).toNatClampNeg)) e2 hB1.2.1 (fun _ => rfl) ⟨(by have q2 := hB2.2.2.1; show zN hm' + zN hx' ≤ _; omega), (by have q2 := hB2.2.2.2; show zS hm' + zS hx' ≤ _; omega)⟩ rfl (by decide) zcd_X12_bracket rfl ⟨zw_1525, zw_1526, zw_1527, zw_62⟩ ⟨Nat.le_of_ble_eq_true rfl, Nat.le_of_ble_eq_true rfl⟩ rfl (Nat.le_of_ble_eq_true rfl) (eL_22 16 rfl) ?_
  refine u_swap ?_
  exact u_eqT (eL_22 17 rfl) (t := 1905) (by decide) (K _ _ hI')
theorem lc_kept {p : Program} {l : Launch} {e : Env} {s : State} {m : MethodId} {below : List Frame} {meth : Method} {c : Code} {b L : Nat} {xs : Nat → Int32} {D : va_G} {cA : Nat → ClassId} {la lb : Nat} {x3 : Int32} {Inv : Nat → Zh → Zh → Prop} (hS : zS_kept Inv) (hB : zBd Inv) {k : Nat} {hx hm : Zh} (hk : k < 512) (hv : zvi x3 L) (hI : Inv k hx hm) (K : ∀ hx' hm', Inv (k + 1) hx' hm' → U p l e s m below meth c b L xs D cA la lb x3 la lb 1905 [] hx' hm') : U p l e s m below meth c b L xs D cA la lb x3 la lb 1512 [] hx hm := by
  refine u_aload1 (eL_22 20 rfl) ?_
  refine u_aload0 (eL_22 21 rfl) ?_
  refine u_iload3 (eL_22 22 rfl) ?_
  refine u_iconst (eL_22 23 rfl) zk_iconst_1 ?_
  refine u_iadd (eL_22 24 rfl) ?_
  refine u_sld hv.1 (eL_22 25 rfl) ?_
  obtain ⟨r, hx', hm', e1, e2, hI'⟩ := hS k hx hm (xs (x3 + 1).toNatClampNeg) hk hI
  have hB1 := hB k hx hm (Nat.le_of_lt hk) hI
  have hB2 := hB (k + 1) hx' hm' hk hI'
  have hle : zLe hm hm' := ((cX12_kept_ok l hm 0 (xs (x3 + 1).toNatClampNeg)) (zoI (r, hm')) (by rw [e2]; rfl)).1
  refine u_callV (ai := [(xs (x3 + 1).toNatClampNeg)]) (rest := []) (cv1 := zoI) (cX11_kept_ok l hx 0 (xs (x3 + 1).toNatClampNeg)) e1 hB1.1 (fun _ => rfl) ⟨(by have q1 := hle.1; have q2 := hB2.2.2.1; show zN hx' + zN hm ≤ _; omega), (by have q1 := hle.2.1; have q2 := hB2.2.2.2; show zS hx' + zS hm ≤ _; omega)⟩ rfl (by decide) zcd_X11_kept rfl ⟨zw_930, zw_931, zw_932, zw_57⟩ ⟨Nat.le_of_ble_eq_true rfl, Nat.le_of_ble_eq_true rfl⟩ rfl (Nat.le_of_ble_eq_true rfl) (eL_22 26 rfl) ?_
  refine u_aload2 (eL_22 27 rfl) ?_
  refine u_aload0 (eL_22 28 rfl) ?_
  refine u_iload3 (eL_22 29 rfl) ?_
  refine u_iconst (eL_22 30 rfl) zk_iconst_1 ?_
  refine u_iadd (eL_22 31 rfl) ?_
  refine u_sld hv.1 (eL_22 32 rfl) ?_
  refine u_swap ?_
  refine u_callV (ai := [(xs (x3 + 1).toNatClampNeg)]) (rest := [.int r]) (cv1 := zoI) (cX12_kept_ok l hm 0 (xs (x3 + 1).toNatClampNeg)) e2 hB1.2.1 (fun _ => rfl) ⟨(by have q2 := hB2.2.2.1; show zN hm' + zN hx' ≤ _; omega), (by have q2 := hB2.2.2.2; show zS hm' + zS hx' ≤ _; omega)⟩ rfl (by decide) zcd_X12_kept rfl ⟨zw_1533, zw_1534, zw_1535, zw_62⟩ ⟨Nat.le_of_ble_eq_true rfl, Nat.le_of_ble_eq_true rfl⟩ rfl (Nat.le_of_ble_eq_true rfl) (eL_22 33 rfl) ?_
  refine u_swap ?_
  exact u_eqT (eL_22 34 rfl) (t := 1905) (by decide) (K _ _ hI')
theorem lc_undo {p : Program} {l : Launch} {e : Env} {s : State} {m : MethodId} {below : List Frame} {meth : Method} {c : Code} {b L : Nat} {xs : Nat → Int32} {D : va_G} {cA : Nat → ClassId} {la lb : Nat} {x3 : Int32} {Inv : Nat → Zh → Zh → Prop} (hS : zS_undo Inv) (hB : zBd Inv) {k : Nat} {hx hm : Zh} (hk : k < 512) (hv : zvi x3 L) (hI : Inv k hx hm) (K : ∀ hx' hm', Inv (k + 1) hx' hm' → U p l e s m below meth c b L xs D cA la lb x3 la lb 1905 [] hx' hm') : U p l e s m below meth c b L xs D cA la lb x3 la lb 1535 [] hx hm := by
  refine u_aload1 (eL_22 37 rfl) ?_
  obtain ⟨r, hx', hm', e1, e2, hI'⟩ := hS k hx hm hk hI
  have hB1 := hB k hx hm (Nat.le_of_lt hk) hI
  have hB2 := hB (k + 1) hx' hm' hk hI'
  have hle : zLe hm hm' := ((cX12_undo_ok l hm 0) (zoI (r, hm')) (by rw [e2]; rfl)).1
  refine u_callV (ai := []) (rest := []) (cv1 := zoI) (cX11_undo_ok l hx 0) e1 hB1.1 (fun _ => rfl) ⟨(by have q1 := hle.1; have q2 := hB2.2.2.1; show zN hx' + zN hm ≤ _; omega), (by have q1 := hle.2.1; have q2 := hB2.2.2.2; show zS hx' + zS hm ≤ _; omega)⟩ rfl (by decide) zcd_X11_undo rfl ⟨zw_934, zw_935, zw_936, zw_57⟩ ⟨Nat.le_of_ble_eq_true rfl, Nat.le_of_ble_eq_true rfl⟩ rfl (Nat.le_of_ble_eq_true rfl) (eL_22 38 rfl) ?_
  refine u_aload2 (eL_22 39 rfl) ?_
  refine u_swap ?_
  refine u_callV (ai := []) (rest := [.int r]) (cv1 := zoI) (cX12_undo_ok l hm 0) e2 hB1.2.1 (fun _ => rfl) ⟨(by have q2 := hB2.2.2.1; show zN hm' + zN hx' ≤ _; omega), (by have q2 := hB2.2.2.2; show zS hm' + zS hx' ≤ _; omega)⟩ rfl (by decide) zcd_X12_undo rfl ⟨zw_1537, zw_1538, zw_1539, zw_62⟩ ⟨Nat.le_of_ble_eq_true rfl, Nat.le_of_ble_eq_true rfl⟩ rfl (Nat.le_of_ble_eq_true rfl) (eL_22 40 rfl) ?_
  refine u_swap ?_
  exact u_eqT (eL_22 41 rfl) (t := 1905) (by decide) (K _ _ hI')
theorem lc_redo {p : Program} {l : Launch} {e : Env} {s : State} {m : MethodId} {below : List Frame} {meth : Method} {c : Code} {b L : Nat} {xs : Nat → Int32} {D : va_G} {cA : Nat → ClassId} {la lb : Nat} {x3 : Int32} {Inv : Nat → Zh → Zh → Prop} (hS : zS_redo Inv) (hB : zBd Inv) {k : Nat} {hx hm : Zh} (hk : k < 512) (hv : zvi x3 L) (hI : Inv k hx hm) (K : ∀ hx' hm', Inv (k + 1) hx' hm' → U p l e s m below meth c b L xs D cA la lb x3 la lb 1905 [] hx' hm') : U p l e s m below meth c b L xs D cA la lb x3 la lb 1548 [] hx hm := by
  refine u_aload1 (eL_22 44 rfl) ?_
  obtain ⟨r, hx', hm', e1, e2, hI'⟩ := hS k hx hm hk hI
  have hB1 := hB k hx hm (Nat.le_of_lt hk) hI
  have hB2 := hB (k + 1) hx' hm' hk hI'
  have hle : zLe hm hm' := ((cX12_redo_ok l hm 0) (zoI (r, hm')) (by rw [e2]; rfl)).1
  refine u_callV (ai := []) (rest := []) (cv1 := zoI) (cX11_redo_ok l hx 0) e1 hB1.1 (fun _ => rfl) ⟨(by have q1 := hle.1; have q2 := hB2.2.2.1; show zN hx' + zN hm ≤ _; omega), (by have q1 := hle.2.1; have q2 := hB2.2.2.2; show zS hx' + zS hm ≤ _; omega)⟩ rfl (by decide) zcd_X11_redo rfl ⟨zw_946, zw_947, zw_948, zw_57⟩ ⟨Nat.le_of_ble_eq_true rfl, Nat.le_of_ble_eq_true rfl⟩ rfl (Nat.le_of_ble_eq_true rfl) (eL_22 45 rfl) ?_
  refine u_aload2 (eL_22 46 rfl) ?_
  refine u_swap ?_
  refine u_callV (ai := []) (rest := [.int r]) (cv1 := zoI) (cX12_redo_ok l hm 0) e2 hB1.2.1 (fun _ => rfl) ⟨(by have q2 := hB2.2.2.1; show zN hm' + zN hx' ≤ _; omega), (by have q2 := hB2.2.2.2; show zS hm' + zS hx' ≤ _; omega)⟩ rfl (by decide) zcd_X12_redo rfl ⟨zw_1545, zw_1546, zw_1547, zw_62⟩ ⟨Nat.le_of_ble_eq_true rfl, Nat.le_of_ble_eq_true rfl⟩ rfl (Nat.le_of_ble_eq_true rfl) (eL_22 47 rfl) ?_
  refine u_swap ?_
  exact u_eqT (eL_22 48 rfl) (t := 1905) (by decide) (K _ _ hI')
theorem lc_sheet {p : Program} {l : Launch} {e : Env} {s : State} {m : MethodId} {below : List Frame} {meth : Method} {c : Code} {b L : Nat} {xs : Nat → Int32} {D : va_G} {cA : Nat → ClassId} {la lb : Nat} {x3 : Int32} {Inv : Nat → Zh → Zh → Prop} (hS : zS_sheet Inv) (hB : zBd Inv) {k : Nat} {hx hm : Zh} (hk : k < 512) (hv : zvi x3 L) (hI : Inv k hx hm) (K : ∀ hx' hm', Inv (k + 1) hx' hm' → U p l e s m below meth c b L xs D cA la lb x3 la lb 1905 [] hx' hm') : U p l e s m below meth c b L xs D cA la lb x3 la lb 1561 [] hx hm := by
  refine u_aload1 (eL_23 1 rfl) ?_
  refine u_aload0 (eL_23 2 rfl) ?_
  refine u_iload3 (eL_23 3 rfl) ?_
  refine u_iconst (eL_23 4 rfl) zk_iconst_1 ?_
  refine u_iadd (eL_23 5 rfl) ?_
  refine u_sld hv.1 (eL_23 6 rfl) ?_
  refine u_aload0 (eL_23 7 rfl) ?_
  refine u_iload3 (eL_23 8 rfl) ?_
  refine u_iconst (eL_23 9 rfl) zk_iconst_2 ?_
  refine u_iadd (eL_23 10 rfl) ?_
  refine u_sld hv.2.1 (eL_23 11 rfl) ?_
  refine u_aload0 (eL_23 12 rfl) ?_
  refine u_iload3 (eL_23 13 rfl) ?_
  refine u_iconst (eL_23 14 rfl) zk_iconst_3 ?_
  refine u_iadd (eL_23 15 rfl) ?_
  refine u_sld hv.2.2.1 (eL_23 16 rfl) ?_
  obtain ⟨r, hx', hm', e1, e2, hI'⟩ := hS k hx hm (xs (x3 + 1).toNatClampNeg) (xs (x3 + 2).toNatClampNeg) (xs (x3 + 3).toNatClampNeg) hk hI
  have hB1 := hB k hx hm (Nat.le_of_lt hk) hI
  have hB2 := hB (k + 1) hx' hm' hk hI'
  have hle : zLe hm hm' := ((cX12_sheet_ok l hm 0 (xs (x3 + 1).toNatClampNeg) (xs (x3 + 2).toNatClampNeg) (xs (x3 + 3).toNatClampNeg)) (zoI (r, hm')) (by rw [e2]; rfl)).1
  refine u_callV (ai := [(xs (x3 + 1).toNatClampNeg), (xs (x3 + 2).toNatClampNeg), (xs (x3 + 3).toNatClampNeg)]) (rest := []) (cv1 := zoI) (cX11_sheet_ok l hx 0 (xs (x3 + 1).toNatClampNeg) (xs (x3 + 2).toNatClampNeg) (xs (x3 + 3).toNatClampNeg)) e1 hB1.1 (fun _ => rfl) ⟨(by have q1 := hle.1; have q2 := hB2.2.2.1; show zN hx' + zN hm ≤ _; omega), (by have q1 := hle.2.1; have q2 := hB2.2.2.2; show zS hx' + zS hm ≤ _; omega)⟩ rfl (by decide) zcd_X11_sheet rfl ⟨zw_954, zw_955, zw_956, zw_57⟩ ⟨Nat.le_of_ble_eq_true rfl, Nat.le_of_ble_eq_true rfl⟩ rfl (Nat.le_of_ble_eq_true rfl) (eL_23 17 rfl) ?_
  refine u_aload2 (eL_23 18 rfl) ?_
  refine u_aload0 (eL_23 19 rfl) ?_
  refine u_iload3 (eL_23 20 rfl) ?_
  refine u_iconst (eL_23 21 rfl) zk_iconst_1 ?_
  refine u_iadd (eL_23 22 rfl) ?_
  refine u_sld hv.1 (eL_23 23 rfl) ?_
  refine u_aload0 (eL_23 24 rfl) ?_
  refine u_iload3 (eL_23 25 rfl) ?_
  refine u_iconst (eL_23 26 rfl) zk_iconst_2 ?_
  refine u_iadd (eL_23 27 rfl) ?_
  refine u_sld hv.2.1 (eL_23 28 rfl) ?_
  refine u_aload0 (eL_23 29 rfl) ?_
  refine u_iload3 (eL_23 30 rfl) ?_
  refine u_iconst (eL_23 31 rfl) zk_iconst_3 ?_
  refine u_iadd (eL_23 32 rfl) ?_
  refine u_sld hv.2.2.1 (eL_23 33 rfl) ?_
  refine u_swap ?_
  refine u_callV (ai := [(xs (x3 + 1).toNatClampNeg), (xs (x3 + 2).toNatClampNeg), (xs (x3 + 3).toNatClampNeg)]) (rest := [.int r]) (cv1 := zoI) (cX12_sheet_ok l hm 0 (xs (x3 + 1).toNatClampNeg) (xs (x3 + 2).toNatClampNeg) (xs (x3 + 3).toNatClampNeg)) e2 hB1.2.1 (fun _ => rfl) ⟨(by have q2 := hB2.2.2.1; show zN hm' + zN hx' ≤ _; omega), (by have q2 := hB2.2.2.2; show zS hm' + zS hx' ≤ _; omega)⟩ rfl (by decide) zcd_X12_sheet rfl ⟨zw_1549, zw_1550, zw_1551, zw_62⟩ ⟨Nat.le_of_ble_eq_true rfl, Nat.le_of_ble_eq_true rfl⟩ rfl (Nat.le_of_ble_eq_true rfl) (eL_23 34 rfl) ?_
  refine u_swap ?_
  exact u_eqT (eL_23 35 rfl) (t := 1905) (by decide) (K _ _ hI')
theorem lc_lose {p : Program} {l : Launch} {e : Env} {s : State} {m : MethodId} {below : List Frame} {meth : Method} {c : Code} {b L : Nat} {xs : Nat → Int32} {D : va_G} {cA : Nat → ClassId} {la lb : Nat} {x3 : Int32} {Inv : Nat → Zh → Zh → Prop} (hS : zS_lose Inv) (hB : zBd Inv) {k : Nat} {hx hm : Zh} (hk : k < 512) (hv : zvi x3 L) (hI : Inv k hx hm) (K : ∀ hx' hm', Inv (k + 1) hx' hm' → U p l e s m below meth c b L xs D cA la lb x3 la lb 1905 [] hx' hm') : U p l e s m below meth c b L xs D cA la lb x3 la lb 1604 [] hx hm := by
  refine u_aload1 (eL_23 38 rfl) ?_
  refine u_aload0 (eL_23 39 rfl) ?_
  refine u_iload3 (eL_23 40 rfl) ?_
  refine u_iconst (eL_23 41 rfl) zk_iconst_1 ?_
  refine u_iadd (eL_23 42 rfl) ?_
  refine u_sld hv.1 (eL_23 43 rfl) ?_
  obtain ⟨r, hx', hm', e1, e2, hI'⟩ := hS k hx hm (xs (x3 + 1).toNatClampNeg) hk hI
  have hB1 := hB k hx hm (Nat.le_of_lt hk) hI
  have hB2 := hB (k + 1) hx' hm' hk hI'
  have hle : zLe hm hm' := ((cX12_lose_ok l hm 0 (xs (x3 + 1).toNatClampNeg)) (zoI (r, hm')) (by rw [e2]; rfl)).1
  refine u_callV (ai := [(xs (x3 + 1).toNatClampNeg)]) (rest := []) (cv1 := zoI) (cX11_lose_ok l hx 0 (xs (x3 + 1).toNatClampNeg)) e1 hB1.1 (fun _ => rfl) ⟨(by have q1 := hle.1; have q2 := hB2.2.2.1; show zN hx' + zN hm ≤ _; omega), (by have q1 := hle.2.1; have q2 := hB2.2.2.2; show zS hx' + zS hm ≤ _; omega)⟩ rfl (by decide) zcd_X11_lose rfl ⟨zw_972, zw_973, zw_974, zw_57⟩ ⟨Nat.le_of_ble_eq_true rfl, Nat.le_of_ble_eq_true rfl⟩ rfl (Nat.le_of_ble_eq_true rfl) (eL_23 44 rfl) ?_
  refine u_aload2 (eL_23 45 rfl) ?_
  refine u_aload0 (eL_23 46 rfl) ?_
  refine u_iload3 (eL_23 47 rfl) ?_
  refine u_iconst (eL_23 48 rfl) zk_iconst_1 ?_
  refine u_iadd (eL_23 49 rfl) ?_
  refine u_sld hv.1 (eL_24 0 rfl) ?_
  refine u_swap ?_
  refine u_callV (ai := [(xs (x3 + 1).toNatClampNeg)]) (rest := [.int r]) (cv1 := zoI) (cX12_lose_ok l hm 0 (xs (x3 + 1).toNatClampNeg)) e2 hB1.2.1 (fun _ => rfl) ⟨(by have q2 := hB2.2.2.1; show zN hm' + zN hx' ≤ _; omega), (by have q2 := hB2.2.2.2; show zS hm' + zS hx' ≤ _; omega)⟩ rfl (by decide) zcd_X12_lose rfl ⟨zw_1553, zw_1554, zw_1555, zw_62⟩ ⟨Nat.le_of_ble_eq_true rfl, Nat.le_of_ble_eq_true rfl⟩ rfl (Nat.le_of_ble_eq_true rfl) (eL_24 1 rfl) ?_
  refine u_swap ?_
  exact u_eqT (eL_24 2 rfl) (t := 1905) (by decide) (K _ _ hI')
theorem lc_put {p : Program} {l : Launch} {e : Env} {s : State} {m : MethodId} {below : List Frame} {meth : Method} {c : Code} {b L : Nat} {xs : Nat → Int32} {D : va_G} {cA : Nat → ClassId} {la lb : Nat} {x3 : Int32} {Inv : Nat → Zh → Zh → Prop} (hS : zS_put Inv) (hB : zBd Inv) {k : Nat} {hx hm : Zh} (hk : k < 512) (hv : zvi x3 L) (hI : Inv k hx hm) (K : ∀ hx' hm', Inv (k + 1) hx' hm' → U p l e s m below meth c b L xs D cA la lb x3 la lb 1905 [] hx' hm') : U p l e s m below meth c b L xs D cA la lb x3 la lb 1627 [] hx hm := by
  refine u_aload1 (eL_24 5 rfl) ?_
  refine u_aload0 (eL_24 6 rfl) ?_
  refine u_iload3 (eL_24 7 rfl) ?_
  refine u_iconst (eL_24 8 rfl) zk_iconst_1 ?_
  refine u_iadd (eL_24 9 rfl) ?_
  refine u_sld hv.1 (eL_24 10 rfl) ?_
  refine u_aload0 (eL_24 11 rfl) ?_
  refine u_iload3 (eL_24 12 rfl) ?_
  refine u_iconst (eL_24 13 rfl) zk_iconst_2 ?_
  refine u_iadd (eL_24 14 rfl) ?_
  refine u_sld hv.2.1 (eL_24 15 rfl) ?_
  refine u_aload0 (eL_24 16 rfl) ?_
  refine u_iload3 (eL_24 17 rfl) ?_
  refine u_iconst (eL_24 18 rfl) zk_iconst_3 ?_
  refine u_iadd (eL_24 19 rfl) ?_
  refine u_sld hv.2.2.1 (eL_24 20 rfl) ?_
  obtain ⟨r, hx', hm', e1, e2, hI'⟩ := hS k hx hm (xs (x3 + 1).toNatClampNeg) (xs (x3 + 2).toNatClampNeg) (xs (x3 + 3).toNatClampNeg) hk hI
  have hB1 := hB k hx hm (Nat.le_of_lt hk) hI
  have hB2 := hB (k + 1) hx' hm' hk hI'
  have hle : zLe hm hm' := ((cX12_put_ok l hm 0 (xs (x3 + 1).toNatClampNeg) (xs (x3 + 2).toNatClampNeg) (xs (x3 + 3).toNatClampNeg)) (zoI (r, hm')) (by rw [e2]; rfl)).1
  refine u_callV (ai := [(xs (x3 + 1).toNatClampNeg), (xs (x3 + 2).toNatClampNeg), (xs (x3 + 3).toNatClampNeg)]) (rest := []) (cv1 := zoI) (cX11_put_ok l hx 0 (xs (x3 + 1).toNatClampNeg) (xs (x3 + 2).toNatClampNeg) (xs (x3 + 3).toNatClampNeg)) e1 hB1.1 (fun _ => rfl) ⟨(by have q1 := hle.1; have q2 := hB2.2.2.1; show zN hx' + zN hm ≤ _; omega), (by have q1 := hle.2.1; have q2 := hB2.2.2.2; show zS hx' + zS hm ≤ _; omega)⟩ rfl (by decide) zcd_X11_put rfl ⟨zw_976, zw_977, zw_978, zw_57⟩ ⟨Nat.le_of_ble_eq_true rfl, Nat.le_of_ble_eq_true rfl⟩ rfl (Nat.le_of_ble_eq_true rfl) (eL_24 21 rfl) ?_
  refine u_aload2 (eL_24 22 rfl) ?_
  refine u_aload0 (eL_24 23 rfl) ?_
  refine u_iload3 (eL_24 24 rfl) ?_
  refine u_iconst (eL_24 25 rfl) zk_iconst_1 ?_
  refine u_iadd (eL_24 26 rfl) ?_
  refine u_sld hv.1 (eL_24 27 rfl) ?_
  refine u_aload0 (eL_24 28 rfl) ?_
  refine u_iload3 (eL_24 29 rfl) ?_
  refine u_iconst (eL_24 30 rfl) zk_iconst_2 ?_
  refine u_iadd (eL_24 31 rfl) ?_
  refine u_sld hv.2.1 (eL_24 32 rfl) ?_
  refine u_aload0 (eL_24 33 rfl) ?_
  refine u_iload3 (eL_24 34 rfl) ?_
  refine u_iconst (eL_24 35 rfl) zk_iconst_3 ?_
  refine u_iadd (eL_24 36 rfl) ?_
  refine u_sld hv.2.2.1 (eL_24 37 rfl) ?_
  refine u_swap ?_
  refine u_callV (ai := [(xs (x3 + 1).toNatClampNeg), (xs (x3 + 2).toNatClampNeg), (xs (x3 + 3).toNatClampNeg)]) (rest := [.int r]) (cv1 := zoI) (cX12_put_ok l hm 0 (xs (x3 + 1).toNatClampNeg) (xs (x3 + 2).toNatClampNeg) (xs (x3 + 3).toNatClampNeg)) e2 hB1.2.1 (fun _ => rfl) ⟨(by have q2 := hB2.2.2.1; show zN hm' + zN hx' ≤ _; omega), (by have q2 := hB2.2.2.2; show zS hm' + zS hx' ≤ _; omega)⟩ rfl (by decide) zcd_X12_put rfl ⟨zw_1557, zw_1558, zw_1559, zw_62⟩ ⟨Nat.le_of_ble_eq_true rfl, Nat.le_of_ble_eq_true rfl⟩ rfl (Nat.le_of_ble_eq_true rfl) (eL_24 38 rfl) ?_
  refine u_swap ?_
  exact u_eqT (eL_24 39 rfl) (t := 1905) (by decide) (K _ _ hI')
theorem lc_cell {p : Program} {l : Launch} {e : Env} {s : State} {m : MethodId} {below : List Frame} {meth : Method} {c : Code} {b L : Nat} {xs : Nat → Int32} {D : va_G} {cA : Nat → ClassId} {la lb : Nat} {x3 : Int32} {Inv : Nat → Zh → Zh → Prop} (hS : zS_cell Inv) (hB : zBd Inv) {k : Nat} {hx hm : Zh} (hk : k < 512) (hv : zvi x3 L) (hI : Inv k hx hm) (K : ∀ hx' hm', Inv (k + 1) hx' hm' → U p l e s m below meth c b L xs D cA la lb x3 la lb 1905 [] hx' hm') : U p l e s m below meth c b L xs D cA la lb x3 la lb 1670 [] hx hm := by
  refine u_aload1 (eL_24 42 rfl) ?_
  refine u_aload0 (eL_24 43 rfl) ?_
  refine u_iload3 (eL_24 44 rfl) ?_
  refine u_iconst (eL_24 45 rfl) zk_iconst_1 ?_
  refine u_iadd (eL_24 46 rfl) ?_
  refine u_sld hv.1 (eL_24 47 rfl) ?_
  refine u_aload0 (eL_24 48 rfl) ?_
  refine u_iload3 (eL_24 49 rfl) ?_
  refine u_iconst (eL_25 0 rfl) zk_iconst_2 ?_
  refine u_iadd (eL_25 1 rfl) ?_
  refine u_sld hv.2.1 (eL_25 2 rfl) ?_
  refine u_aload0 (eL_25 3 rfl) ?_
  refine u_iload3 (eL_25 4 rfl) ?_
  refine u_iconst (eL_25 5 rfl) zk_iconst_3 ?_
  refine u_iadd (eL_25 6 rfl) ?_
  refine u_sld hv.2.2.1 (eL_25 7 rfl) ?_
  obtain ⟨r, hx', hm', e1, e2, hI'⟩ := hS k hx hm (xs (x3 + 1).toNatClampNeg) (xs (x3 + 2).toNatClampNeg) (xs (x3 + 3).toNatClampNeg) hk hI
  have hB1 := hB k hx hm (Nat.le_of_lt hk) hI
  have hB2 := hB (k + 1) hx' hm' hk hI'
  have hle : zLe hm hm' := ((cX12_cell_ok l hm 0 (xs (x3 + 1).toNatClampNeg) (xs (x3 + 2).toNatClampNeg) (xs (x3 + 3).toNatClampNeg)) (zoJ (r, hm')) (by rw [e2]; rfl)).1
  refine u_callV (ai := [(xs (x3 + 1).toNatClampNeg), (xs (x3 + 2).toNatClampNeg), (xs (x3 + 3).toNatClampNeg)]) (rest := []) (cv1 := zoJ) (cX11_cell_ok l hx 0 (xs (x3 + 1).toNatClampNeg) (xs (x3 + 2).toNatClampNeg) (xs (x3 + 3).toNatClampNeg)) e1 hB1.1 (fun _ => rfl) ⟨(by have q1 := hle.1; have q2 := hB2.2.2.1; show zN hx' + zN hm ≤ _; omega), (by have q1 := hle.2.1; have q2 := hB2.2.2.2; show zS hx' + zS hm ≤ _; omega)⟩ rfl (by decide) zcd_X11_cell rfl ⟨zw_984, zw_985, zw_986, zw_57⟩ ⟨Nat.le_of_ble_eq_true rfl, Nat.le_of_ble_eq_true rfl⟩ rfl (Nat.le_of_ble_eq_true rfl) (eL_25 8 rfl) ?_
  refine u_aload2 (eL_25 9 rfl) ?_
  refine u_aload0 (eL_25 10 rfl) ?_
  refine u_iload3 (eL_25 11 rfl) ?_
  refine u_iconst (eL_25 12 rfl) zk_iconst_1 ?_
  refine u_iadd (eL_25 13 rfl) ?_
  refine u_sld hv.1 (eL_25 14 rfl) ?_
  refine u_aload0 (eL_25 15 rfl) ?_
  refine u_iload3 (eL_25 16 rfl) ?_
  refine u_iconst (eL_25 17 rfl) zk_iconst_2 ?_
  refine u_iadd (eL_25 18 rfl) ?_
  refine u_sld hv.2.1 (eL_25 19 rfl) ?_
  refine u_aload0 (eL_25 20 rfl) ?_
  refine u_iload3 (eL_25 21 rfl) ?_
  refine u_iconst (eL_25 22 rfl) zk_iconst_3 ?_
  refine u_iadd (eL_25 23 rfl) ?_
  refine u_sld hv.2.2.1 (eL_25 24 rfl) ?_
  refine u_swap ?_
  refine u_callV (ai := [(xs (x3 + 1).toNatClampNeg), (xs (x3 + 2).toNatClampNeg), (xs (x3 + 3).toNatClampNeg)]) (rest := [.long r]) (cv1 := zoJ) (cX12_cell_ok l hm 0 (xs (x3 + 1).toNatClampNeg) (xs (x3 + 2).toNatClampNeg) (xs (x3 + 3).toNatClampNeg)) e2 hB1.2.1 (fun _ => rfl) ⟨(by have q2 := hB2.2.2.1; show zN hm' + zN hx' ≤ _; omega), (by have q2 := hB2.2.2.2; show zS hm' + zS hx' ≤ _; omega)⟩ rfl (by decide) zcd_X12_cell rfl ⟨zw_1565, zw_1566, zw_1567, zw_62⟩ ⟨Nat.le_of_ble_eq_true rfl, Nat.le_of_ble_eq_true rfl⟩ rfl (Nat.le_of_ble_eq_true rfl) (eL_25 25 rfl) ?_
  refine u_swap ?_
  exact u_lcmpT (eL_25 26 rfl) (eL_25 27 rfl) (t := 1905) (by decide) (K _ _ hI')
theorem lc_copy {p : Program} {l : Launch} {e : Env} {s : State} {m : MethodId} {below : List Frame} {meth : Method} {c : Code} {b L : Nat} {xs : Nat → Int32} {D : va_G} {cA : Nat → ClassId} {la lb : Nat} {x3 : Int32} {Inv : Nat → Zh → Zh → Prop} (hS : zS_copy Inv) (hB : zBd Inv) {k : Nat} {hx hm : Zh} (hk : k < 512) (hv : zvi x3 L) (hI : Inv k hx hm) (K : ∀ hx' hm', Inv (k + 1) hx' hm' → U p l e s m below meth c b L xs D cA la lb x3 la lb 1905 [] hx' hm') : U p l e s m below meth c b L xs D cA la lb x3 la lb 1714 [] hx hm := by
  refine u_aload1 (eL_25 30 rfl) ?_
  refine u_aload0 (eL_25 31 rfl) ?_
  refine u_iload3 (eL_25 32 rfl) ?_
  refine u_iconst (eL_25 33 rfl) zk_iconst_1 ?_
  refine u_iadd (eL_25 34 rfl) ?_
  refine u_sld hv.1 (eL_25 35 rfl) ?_
  refine u_aload0 (eL_25 36 rfl) ?_
  refine u_iload3 (eL_25 37 rfl) ?_
  refine u_iconst (eL_25 38 rfl) zk_iconst_2 ?_
  refine u_iadd (eL_25 39 rfl) ?_
  refine u_sld hv.2.1 (eL_25 40 rfl) ?_
  refine u_aload0 (eL_25 41 rfl) ?_
  refine u_iload3 (eL_25 42 rfl) ?_
  refine u_iconst (eL_25 43 rfl) zk_iconst_3 ?_
  refine u_iadd (eL_25 44 rfl) ?_
  refine u_sld hv.2.2.1 (eL_25 45 rfl) ?_
  refine u_aload0 (eL_25 46 rfl) ?_
  refine u_iload3 (eL_25 47 rfl) ?_
  refine u_iconst (eL_25 48 rfl) zk_iconst_4 ?_
  refine u_iadd (eL_25 49 rfl) ?_
  refine u_sld hv.2.2.2.1 (eL_26 0 rfl) ?_
  refine u_aload0 (eL_26 1 rfl) ?_
  refine u_iload3 (eL_26 2 rfl) ?_
  refine u_iconst (eL_26 3 rfl) zk_iconst_5 ?_
  refine u_iadd (eL_26 4 rfl) ?_
  refine u_sld hv.2.2.2.2.1 (eL_26 5 rfl) ?_
  obtain ⟨r, hx', hm', e1, e2, hI'⟩ := hS k hx hm (xs (x3 + 1).toNatClampNeg) (xs (x3 + 2).toNatClampNeg) (xs (x3 + 3).toNatClampNeg) (xs (x3 + 4).toNatClampNeg) (xs (x3 + 5).toNatClampNeg) hk hI
  have hB1 := hB k hx hm (Nat.le_of_lt hk) hI
  have hB2 := hB (k + 1) hx' hm' hk hI'
  have hle : zLe hm hm' := ((cX12_copy_ok l hm 0 (xs (x3 + 1).toNatClampNeg) (xs (x3 + 2).toNatClampNeg) (xs (x3 + 3).toNatClampNeg) (xs (x3 + 4).toNatClampNeg) (xs (x3 + 5).toNatClampNeg)) (zoI (r, hm')) (by rw [e2]; rfl)).1
  refine u_callV (ai := [(xs (x3 + 1).toNatClampNeg), (xs (x3 + 2).toNatClampNeg), (xs (x3 + 3).toNatClampNeg), (xs (x3 + 4).toNatClampNeg), (xs (x3 + 5).toNatClampNeg)]) (rest := []) (cv1 := zoI) (cX11_copy_ok l hx 0 (xs (x3 + 1).toNatClampNeg) (xs (x3 + 2).toNatClampNeg) (xs (x3 + 3).toNatClampNeg) (xs (x3 + 4).toNatClampNeg) (xs (x3 + 5).toNatClampNeg)) e1 hB1.1 (fun _ => rfl) ⟨(by have q1 := hle.1; have q2 := hB2.2.2.1; show zN hx' + zN hm ≤ _; omega), (by have q1 := hle.2.1; have q2 := hB2.2.2.2; show zS hx' + zS hm ≤ _; omega)⟩ rfl (by decide) zcd_X11_copy rfl ⟨zw_988, zw_989, zw_990, zw_57⟩ ⟨Nat.le_of_ble_eq_true rfl, Nat.le_of_ble_eq_true rfl⟩ rfl (Nat.le_of_ble_eq_true rfl) (eL_26 6 rfl) ?_
  refine u_aload2 (eL_26 7 rfl) ?_
  refine u_aload0 (eL_26 8 rfl) ?_
  refine u_iload3 (eL_26 9 rfl) ?_
  refine u_iconst (eL_26 10 rfl) zk_iconst_1 ?_
  refine u_iadd (eL_26 11 rfl) ?_
  refine u_sld hv.1 (eL_26 12 rfl) ?_
  refine u_aload0 (eL_26 13 rfl) ?_
  refine u_iload3 (eL_26 14 rfl) ?_
  refine u_iconst (eL_26 15 rfl) zk_iconst_2 ?_
  refine u_iadd (eL_26 16 rfl) ?_
  refine u_sld hv.2.1 (eL_26 17 rfl) ?_
  refine u_aload0 (eL_26 18 rfl) ?_
  refine u_iload3 (eL_26 19 rfl) ?_
  refine u_iconst (eL_26 20 rfl) zk_iconst_3 ?_
  refine u_iadd (eL_26 21 rfl) ?_
  refine u_sld hv.2.2.1 (eL_26 22 rfl) ?_
  refine u_aload0 (eL_26 23 rfl) ?_
  refine u_iload3 (eL_26 24 rfl) ?_
  refine u_iconst (eL_26 25 rfl) zk_iconst_4 ?_
  refine u_iadd (eL_26 26 rfl) ?_
  refine u_sld hv.2.2.2.1 (eL_26 27 rfl) ?_
  refine u_aload0 (eL_26 28 rfl) ?_
  refine u_iload3 (eL_26 29 rfl) ?_
  refine u_iconst (eL_26 30 rfl) zk_iconst_5 ?_
  refine u_iadd (eL_26 31 rfl) ?_
  refine u_sld hv.2.2.2.2.1 (eL_26 32 rfl) ?_
  refine u_swap ?_
  refine u_callV (ai := [(xs (x3 + 1).toNatClampNeg), (xs (x3 + 2).toNatClampNeg), (xs (x3 + 3).toNatClampNeg), (xs (x3 + 4).toNatClampNeg), (xs (x3 + 5).toNatClampNeg)]) (rest := [.int r]) (cv1 := zoI) (cX12_copy_ok l hm 0 (xs (x3 + 1).toNatClampNeg) (xs (x3 + 2).toNatClampNeg) (xs (x3 + 3).toNatClampNeg) (xs (x3 + 4).toNatClampNeg) (xs (x3 + 5).toNatClampNeg)) e2 hB1.2.1 (fun _ => rfl) ⟨(by have q2 := hB2.2.2.1; show zN hm' + zN hx' ≤ _; omega), (by have q2 := hB2.2.2.2; show zS hm' + zS hx' ≤ _; omega)⟩ rfl (by decide) zcd_X12_copy rfl ⟨zw_1573, zw_1574, zw_1575, zw_62⟩ ⟨Nat.le_of_ble_eq_true rfl, Nat.le_of_ble_eq_true rfl⟩ rfl (Nat.le_of_ble_eq_true rfl) (eL_26 33 rfl) ?_
  refine u_swap ?_
  exact u_eqT (eL_26 34 rfl) (t := 1905) (by decide) (K _ _ hI')
theorem lc_tell {p : Program} {l : Launch} {e : Env} {s : State} {m : MethodId} {below : List Frame} {meth : Method} {c : Code} {b L : Nat} {xs : Nat → Int32} {D : va_G} {cA : Nat → ClassId} {la lb : Nat} {x3 : Int32} {Inv : Nat → Zh → Zh → Prop} (hS : zS_tell Inv) (hB : zBd Inv) {k : Nat} {hx hm : Zh} (hk : k < 512) (hv : zvi x3 L) (hI : Inv k hx hm) (K : ∀ hx' hm', Inv (k + 1) hx' hm' → U p l e s m below meth c b L xs D cA la lb x3 la lb 1905 [] hx' hm') : U p l e s m below meth c b L xs D cA la lb x3 la lb 1777 [] hx hm := by
  refine u_aload1 (eL_26 37 rfl) ?_
  refine u_aload0 (eL_26 38 rfl) ?_
  refine u_iload3 (eL_26 39 rfl) ?_
  refine u_iconst (eL_26 40 rfl) zk_iconst_1 ?_
  refine u_iadd (eL_26 41 rfl) ?_
  refine u_sld hv.1 (eL_26 42 rfl) ?_
  obtain ⟨r, hx', hm', e1, e2, hI'⟩ := hS k hx hm (xs (x3 + 1).toNatClampNeg) hk hI
  have hB1 := hB k hx hm (Nat.le_of_lt hk) hI
  have hB2 := hB (k + 1) hx' hm' hk hI'
  have hle : zLe hm hm' := ((cX12_tell_ok l hm 0 (xs (x3 + 1).toNatClampNeg)) (zoI (r, hm')) (by rw [e2]; rfl)).1
  refine u_callV (ai := [(xs (x3 + 1).toNatClampNeg)]) (rest := []) (cv1 := zoI) (cX11_tell_ok l hx 0 (xs (x3 + 1).toNatClampNeg)) e1 hB1.1 (fun _ => rfl) ⟨(by have q1 := hle.1; have q2 := hB2.2.2.1; show zN hx' + zN hm ≤ _; omega), (by have q1 := hle.2.1; have q2 := hB2.2.2.2; show zS hx' + zS hm ≤ _; omega)⟩ rfl (by decide) zcd_X11_tell rfl ⟨zw_993, zw_994, zw_995, zw_57⟩ ⟨Nat.le_of_ble_eq_true rfl, Nat.le_of_ble_eq_true rfl⟩ rfl (Nat.le_of_ble_eq_true rfl) (eL_26 43 rfl) ?_
  refine u_aload2 (eL_26 44 rfl) ?_
  refine u_aload0 (eL_26 45 rfl) ?_
  refine u_iload3 (eL_26 46 rfl) ?_
  refine u_iconst (eL_26 47 rfl) zk_iconst_1 ?_
  refine u_iadd (eL_26 48 rfl) ?_
  refine u_sld hv.1 (eL_26 49 rfl) ?_
  refine u_swap ?_
  refine u_callV (ai := [(xs (x3 + 1).toNatClampNeg)]) (rest := [.int r]) (cv1 := zoI) (cX12_tell_ok l hm 0 (xs (x3 + 1).toNatClampNeg)) e2 hB1.2.1 (fun _ => rfl) ⟨(by have q2 := hB2.2.2.1; show zN hm' + zN hx' ≤ _; omega), (by have q2 := hB2.2.2.2; show zS hm' + zS hx' ≤ _; omega)⟩ rfl (by decide) zcd_X12_tell rfl ⟨zw_1577, zw_1578, zw_1579, zw_62⟩ ⟨Nat.le_of_ble_eq_true rfl, Nat.le_of_ble_eq_true rfl⟩ rfl (Nat.le_of_ble_eq_true rfl) (eL_27 0 rfl) ?_
  refine u_swap ?_
  exact u_eqT (eL_27 1 rfl) (t := 1905) (by decide) (K _ _ hI')
theorem lc_name {p : Program} {l : Launch} {e : Env} {s : State} {m : MethodId} {below : List Frame} {meth : Method} {c : Code} {b L : Nat} {xs : Nat → Int32} {D : va_G} {cA : Nat → ClassId} {la lb : Nat} {x3 : Int32} {Inv : Nat → Zh → Zh → Prop} (hS : zS_name Inv) (hB : zBd Inv) {k : Nat} {hx hm : Zh} (hk : k < 512) (hv : zvi x3 L) (hI : Inv k hx hm) (K : ∀ hx' hm', Inv (k + 1) hx' hm' → U p l e s m below meth c b L xs D cA la lb x3 la lb 1905 [] hx' hm') : U p l e s m below meth c b L xs D cA la lb x3 la lb 1800 [] hx hm := by
  refine u_aload1 (eL_27 4 rfl) ?_
  refine u_aload0 (eL_27 5 rfl) ?_
  refine u_iload3 (eL_27 6 rfl) ?_
  refine u_iconst (eL_27 7 rfl) zk_iconst_1 ?_
  refine u_iadd (eL_27 8 rfl) ?_
  refine u_sld hv.1 (eL_27 9 rfl) ?_
  obtain ⟨r, hx', hm', e1, e2, hI'⟩ := hS k hx hm (xs (x3 + 1).toNatClampNeg) hk hI
  have hB1 := hB k hx hm (Nat.le_of_lt hk) hI
  have hB2 := hB (k + 1) hx' hm' hk hI'
  have hle : zLe hm hm' := ((cX12_name_ok l hm 0 (xs (x3 + 1).toNatClampNeg)) (zoI (r, hm')) (by rw [e2]; rfl)).1
  refine u_callV (ai := [(xs (x3 + 1).toNatClampNeg)]) (rest := []) (cv1 := zoI) (cX11_name_ok l hx 0 (xs (x3 + 1).toNatClampNeg)) e1 hB1.1 (fun _ => rfl) ⟨(by have q1 := hle.1; have q2 := hB2.2.2.1; show zN hx' + zN hm ≤ _; omega), (by have q1 := hle.2.1; have q2 := hB2.2.2.2; show zS hx' + zS hm ≤ _; omega)⟩ rfl (by decide) zcd_X11_name rfl ⟨zw_1023, zw_1024, zw_1025, zw_57⟩ ⟨Nat.le_of_ble_eq_true rfl, Nat.le_of_ble_eq_true rfl⟩ rfl (Nat.le_of_ble_eq_true rfl) (eL_27 10 rfl) ?_
  refine u_aload2 (eL_27 11 rfl) ?_
  refine u_aload0 (eL_27 12 rfl) ?_
  refine u_iload3 (eL_27 13 rfl) ?_
  refine u_iconst (eL_27 14 rfl) zk_iconst_1 ?_
  refine u_iadd (eL_27 15 rfl) ?_
  refine u_sld hv.1 (eL_27 16 rfl) ?_
  refine u_swap ?_
  refine u_callV (ai := [(xs (x3 + 1).toNatClampNeg)]) (rest := [.int r]) (cv1 := zoI) (cX12_name_ok l hm 0 (xs (x3 + 1).toNatClampNeg)) e2 hB1.2.1 (fun _ => rfl) ⟨(by have q2 := hB2.2.2.1; show zN hm' + zN hx' ≤ _; omega), (by have q2 := hB2.2.2.2; show zS hm' + zS hx' ≤ _; omega)⟩ rfl (by decide) zcd_X12_name rfl ⟨zw_1585, zw_1586, zw_1587, zw_62⟩ ⟨Nat.le_of_ble_eq_true rfl, Nat.le_of_ble_eq_true rfl⟩ rfl (Nat.le_of_ble_eq_true rfl) (eL_27 17 rfl) ?_
  refine u_swap ?_
  exact u_eqT (eL_27 18 rfl) (t := 1905) (by decide) (K _ _ hI')
theorem lc_as {p : Program} {l : Launch} {e : Env} {s : State} {m : MethodId} {below : List Frame} {meth : Method} {c : Code} {b L : Nat} {xs : Nat → Int32} {D : va_G} {cA : Nat → ClassId} {la lb : Nat} {x3 : Int32} {Inv : Nat → Zh → Zh → Prop} (hS : zS_as Inv) (hB : zBd Inv) {k : Nat} {hx hm : Zh} (hk : k < 512) (hv : zvi x3 L) (hI : Inv k hx hm) (K : ∀ hx' hm', Inv (k + 1) hx' hm' → U p l e s m below meth c b L xs D cA la lb x3 la lb 1905 [] hx' hm') : U p l e s m below meth c b L xs D cA la lb x3 la lb 1823 [] hx hm := by
  refine u_aload1 (eL_27 21 rfl) ?_
  refine u_aload0 (eL_27 22 rfl) ?_
  refine u_iload3 (eL_27 23 rfl) ?_
  refine u_iconst (eL_27 24 rfl) zk_iconst_1 ?_
  refine u_iadd (eL_27 25 rfl) ?_
  refine u_sld hv.1 (eL_27 26 rfl) ?_
  refine u_aload0 (eL_27 27 rfl) ?_
  refine u_iload3 (eL_27 28 rfl) ?_
  refine u_iconst (eL_27 29 rfl) zk_iconst_2 ?_
  refine u_iadd (eL_27 30 rfl) ?_
  refine u_sld hv.2.1 (eL_27 31 rfl) ?_
  obtain ⟨r, hx', hm', e1, e2, hI'⟩ := hS k hx hm (xs (x3 + 1).toNatClampNeg) (xs (x3 + 2).toNatClampNeg) hk hI
  have hB1 := hB k hx hm (Nat.le_of_lt hk) hI
  have hB2 := hB (k + 1) hx' hm' hk hI'
  have hle : zLe hm hm' := ((cX12_as_ok l hm 0 (xs (x3 + 1).toNatClampNeg) (xs (x3 + 2).toNatClampNeg)) (zoI (r, hm')) (by rw [e2]; rfl)).1
  refine u_callV (ai := [(xs (x3 + 1).toNatClampNeg), (xs (x3 + 2).toNatClampNeg)]) (rest := []) (cv1 := zoI) (cX11_as_ok l hx 0 (xs (x3 + 1).toNatClampNeg) (xs (x3 + 2).toNatClampNeg)) e1 hB1.1 (fun _ => rfl) ⟨(by have q1 := hle.1; have q2 := hB2.2.2.1; show zN hx' + zN hm ≤ _; omega), (by have q1 := hle.2.1; have q2 := hB2.2.2.2; show zS hx' + zS hm ≤ _; omega)⟩ rfl (by decide) zcd_X11_as rfl ⟨zw_1036, zw_1037, zw_1038, zw_57⟩ ⟨Nat.le_of_ble_eq_true rfl, Nat.le_of_ble_eq_true rfl⟩ rfl (Nat.le_of_ble_eq_true rfl) (eL_27 32 rfl) ?_
  refine u_aload2 (eL_27 33 rfl) ?_
  refine u_aload0 (eL_27 34 rfl) ?_
  refine u_iload3 (eL_27 35 rfl) ?_
  refine u_iconst (eL_27 36 rfl) zk_iconst_1 ?_
  refine u_iadd (eL_27 37 rfl) ?_
  refine u_sld hv.1 (eL_27 38 rfl) ?_
  refine u_aload0 (eL_27 39 rfl) ?_
  refine u_iload3 (eL_27 40 rfl) ?_
  refine u_iconst (eL_27 41 rfl) zk_iconst_2 ?_
  refine u_iadd (eL_27 42 rfl) ?_
  refine u_sld hv.2.1 (eL_27 43 rfl) ?_
  refine u_swap ?_
  refine u_callV (ai := [(xs (x3 + 1).toNatClampNeg), (xs (x3 + 2).toNatClampNeg)]) (rest := [.int r]) (cv1 := zoI) (cX12_as_ok l hm 0 (xs (x3 + 1).toNatClampNeg) (xs (x3 + 2).toNatClampNeg)) e2 hB1.2.1 (fun _ => rfl) ⟨(by have q2 := hB2.2.2.1; show zN hm' + zN hx' ≤ _; omega), (by have q2 := hB2.2.2.2; show zS hm' + zS hx' ≤ _; omega)⟩ rfl (by decide) zcd_X12_as rfl ⟨zw_1589, zw_1590, zw_1591, zw_62⟩ ⟨Nat.le_of_ble_eq_true rfl, Nat.le_of_ble_eq_true rfl⟩ rfl (Nat.le_of_ble_eq_true rfl) (eL_27 44 rfl) ?_
  refine u_swap ?_
  exact u_eqT (eL_27 45 rfl) (t := 1905) (by decide) (K _ _ hI')
theorem lc_trace {p : Program} {l : Launch} {e : Env} {s : State} {m : MethodId} {below : List Frame} {meth : Method} {c : Code} {b L : Nat} {xs : Nat → Int32} {D : va_G} {cA : Nat → ClassId} {la lb : Nat} {x3 : Int32} {Inv : Nat → Zh → Zh → Prop} (hS : zS_trace Inv) (hB : zBd Inv) {k : Nat} {hx hm : Zh} (hk : k < 512) (hv : zvi x3 L) (hI : Inv k hx hm) (K : ∀ hx' hm', Inv (k + 1) hx' hm' → U p l e s m below meth c b L xs D cA la lb x3 la lb 1905 [] hx' hm') : U p l e s m below meth c b L xs D cA la lb x3 la lb 1856 [] hx hm := by
  refine u_aload1 (eL_27 48 rfl) ?_
  obtain ⟨r, e1, e2, hI'⟩ := hS k hx hm hk hI
  have hB1 := hB k hx hm (Nat.le_of_lt hk) hI
  have hB2 := hB (k + 1) hx hm hk hI'
  have hle : zLe hm hm := ((cX12_trace_ok l hm 0) ((zoi hm) r) (by rw [e2]; rfl)).1
  refine u_callV (ai := []) (rest := []) (cv1 := (zoi hx)) (cX11_trace_ok l hx 0) e1 hB1.1 (fun _ => rfl) ⟨(by have q1 := hle.1; have q2 := hB2.2.2.1; show zN hx + zN hm ≤ _; omega), (by have q1 := hle.2.1; have q2 := hB2.2.2.2; show zS hx + zS hm ≤ _; omega)⟩ rfl (by decide) zcd_X11_trace rfl ⟨zw_1040, zw_1041, zw_1042, zw_57⟩ ⟨Nat.le_of_ble_eq_true rfl, Nat.le_of_ble_eq_true rfl⟩ rfl (Nat.le_of_ble_eq_true rfl) (eL_27 49 rfl) ?_
  refine u_aload2 (eL_28 0 rfl) ?_
  refine u_swap ?_
  refine u_callV (ai := []) (rest := [.int r]) (cv1 := (zoi hm)) (cX12_trace_ok l hm 0) e2 hB1.2.1 (fun _ => rfl) ⟨(by have q2 := hB2.2.2.1; show zN hm + zN hx ≤ _; omega), (by have q2 := hB2.2.2.2; show zS hm + zS hx ≤ _; omega)⟩ rfl (by decide) zcd_X12_trace rfl ⟨zw_1593, zw_1594, zw_1595, zw_62⟩ ⟨Nat.le_of_ble_eq_true rfl, Nat.le_of_ble_eq_true rfl⟩ rfl (Nat.le_of_ble_eq_true rfl) (eL_28 1 rfl) ?_
  refine u_swap ?_
  exact u_eqT (eL_28 2 rfl) (t := 1905) (by decide) (K _ _ hI')
theorem lc_fault {p : Program} {l : Launch} {e : Env} {s : State} {m : MethodId} {below : List Frame} {meth : Method} {c : Code} {b L : Nat} {xs : Nat → Int32} {D : va_G} {cA : Nat → ClassId} {la lb : Nat} {x3 : Int32} {Inv : Nat → Zh → Zh → Prop} (hS : zS_fault Inv) (hB : zBd Inv) {k : Nat} {hx hm : Zh} (hk : k < 512) (hv : zvi x3 L) (hI : Inv k hx hm) (K : ∀ hx' hm', Inv (k + 1) hx' hm' → U p l e s m below meth c b L xs D cA la lb x3 la lb 1905 [] hx' hm') : U p l e s m below meth c b L xs D cA la lb x3 la lb 1869 [] hx hm := by
  refine u_aload1 (eL_28 5 rfl) ?_
  obtain ⟨r, e1, e2, hI'⟩ := hS k hx hm hk hI
  have hB1 := hB k hx hm (Nat.le_of_lt hk) hI
  have hB2 := hB (k + 1) hx hm hk hI'
  have hle : zLe hm hm := ((cX12_fault_ok l hm 0) ((zoi hm) r) (by rw [e2]; rfl)).1
  refine u_callV (ai := []) (rest := []) (cv1 := (zoi hx)) (cX11_fault_ok l hx 0) e1 hB1.1 (fun _ => rfl) ⟨(by have q1 := hle.1; have q2 := hB2.2.2.1; show zN hx + zN hm ≤ _; omega), (by have q1 := hle.2.1; have q2 := hB2.2.2.2; show zS hx + zS hm ≤ _; omega)⟩ rfl (by decide) zcd_X11_fault rfl ⟨zw_1044, zw_1045, zw_1046, zw_57⟩ ⟨Nat.le_of_ble_eq_true rfl, Nat.le_of_ble_eq_true rfl⟩ rfl (Nat.le_of_ble_eq_true rfl) (eL_28 6 rfl) ?_
  refine u_aload2 (eL_28 7 rfl) ?_
  refine u_swap ?_
  refine u_callV (ai := []) (rest := [.int r]) (cv1 := (zoi hm)) (cX12_fault_ok l hm 0) e2 hB1.2.1 (fun _ => rfl) ⟨(by have q2 := hB2.2.2.1; show zN hm + zN hx ≤ _; omega), (by have q2 := hB2.2.2.2; show zS hm + zS hx ≤ _; omega)⟩ rfl (by decide) zcd_X12_fault rfl ⟨zw_1597, zw_1598, zw_1599, zw_62⟩ ⟨Nat.le_of_ble_eq_true rfl, Nat.le_of_ble_eq_true rfl⟩ rfl (Nat.le_of_ble_eq_true rfl) (eL_28 8 rfl) ?_
  refine u_swap ?_
  exact u_eqT (eL_28 9 rfl) (t := 1905) (by decide) (K _ _ hI')
theorem lc_many {p : Program} {l : Launch} {e : Env} {s : State} {m : MethodId} {below : List Frame} {meth : Method} {c : Code} {b L : Nat} {xs : Nat → Int32} {D : va_G} {cA : Nat → ClassId} {la lb : Nat} {x3 : Int32} {Inv : Nat → Zh → Zh → Prop} (hS : zS_many Inv) (hB : zBd Inv) {k : Nat} {hx hm : Zh} (hk : k < 512) (hv : zvi x3 L) (hI : Inv k hx hm) (K : ∀ hx' hm', Inv (k + 1) hx' hm' → U p l e s m below meth c b L xs D cA la lb x3 la lb 1905 [] hx' hm') : U p l e s m below meth c b L xs D cA la lb x3 la lb 1882 [] hx hm := by
  refine u_aload1 (eL_28 12 rfl) ?_
  refine u_aload0 (eL_28 13 rfl) ?_
  refine u_iload3 (eL_28 14 rfl) ?_
  refine u_iconst (eL_28 15 rfl) zk_iconst_1 ?_
  refine u_iadd (eL_28 16 rfl) ?_
  refine u_sld hv.1 (eL_28 17 rfl) ?_
  obtain ⟨r, e1, e2, hI'⟩ := hS k hx hm (xs (x3 + 1).toNatClampNeg) hk hI
  have hB1 := hB k hx hm (Nat.le_of_lt hk) hI
  have hB2 := hB (k + 1) hx hm hk hI'
  have hle : zLe hm hm := ((cX12_many_ok l hm 0 (xs (x3 + 1).toNatClampNeg)) ((zoi hm) r) (by rw [e2]; rfl)).1
  refine u_callV (ai := [(xs (x3 + 1).toNatClampNeg)]) (rest := []) (cv1 := (zoi hx)) (cX11_many_ok l hx 0 (xs (x3 + 1).toNatClampNeg)) e1 hB1.1 (fun _ => rfl) ⟨(by have q1 := hle.1; have q2 := hB2.2.2.1; show zN hx + zN hm ≤ _; omega), (by have q1 := hle.2.1; have q2 := hB2.2.2.2; show zS hx + zS hm ≤ _; omega)⟩ rfl (by decide) zcd_X11_many rfl ⟨zw_1048, zw_1049, zw_1050, zw_57⟩ ⟨Nat.le_of_ble_eq_true rfl, Nat.le_of_ble_eq_true rfl⟩ rfl (Nat.le_of_ble_eq_true rfl) (eL_28 18 rfl) ?_
  refine u_aload2 (eL_28 19 rfl) ?_
  refine u_aload0 (eL_28 20 rfl) ?_
  refine u_iload3 (eL_28 21 rfl) ?_
  refine u_iconst (eL_28 22 rfl) zk_iconst_1 ?_
  refine u_iadd (eL_28 23 rfl) ?_
  refine u_sld hv.1 (eL_28 24 rfl) ?_
  refine u_swap ?_
  refine u_callV (ai := [(xs (x3 + 1).toNatClampNeg)]) (rest := [.int r]) (cv1 := (zoi hm)) (cX12_many_ok l hm 0 (xs (x3 + 1).toNatClampNeg)) e2 hB1.2.1 (fun _ => rfl) ⟨(by have q2 := hB2.2.2.1; show zN hm + zN hx ≤ _; omega), (by have q2 := hB2.2.2.2; show zS hm + zS hx ≤ _; omega)⟩ rfl (by decide) zcd_X12_many rfl ⟨zw_1601, zw_1602, zw_1603, zw_62⟩ ⟨Nat.le_of_ble_eq_true rfl, Nat.le_of_ble_eq_true rfl⟩ rfl (Nat.le_of_ble_eq_true rfl) (eL_28 25 rfl) ?_
  refine u_swap ?_
  exact u_eqT (eL_28 26 rfl) (t := 1905) (by decide) (K _ _ hI')
