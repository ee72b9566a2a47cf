def my_s0 : my_M := fun _ _ => 0
def my_r0 : my_M := fun j => match j with
  | 17 => (upd (upd (upd (upd (fun _ => 0) (Int32.toNatClampNeg 0) (-1)) (Int32.toNatClampNeg (0 + 1)) (-1)) (Int32.toNatClampNeg ((0 + 1) + 1)) (-1)) (Int32.toNatClampNeg (((0 + 1) + 1) + 1)) (-1))
  | _ => fun _ => 0
def Rel (σ ρ : my_M) : Prop := sorry
theorem pr_callers {σ ρ : my_M} (h : Rel σ ρ) (a0 a1 a2 a3 : Int32) : ∃ (r : Int32) (σ1 ρ1 : my_M), f_X8_callers σ a0 a1 a2 a3 = some (r, σ1) ∧ f_X9_callers ρ a0 a1 a2 a3 = some (r, ρ1) ∧ Rel σ1 ρ1 := sorry
theorem pr_ofCaller {σ ρ : my_M} (h : Rel σ ρ) (a0 a1 : Int32) : ∃ (r : Int32) (σ1 ρ1 : my_M), f_X8_ofCaller σ a0 a1 = some (r, σ1) ∧ f_X9_ofCaller ρ a0 a1 = some (r, ρ1) ∧ Rel σ1 ρ1 := sorry
theorem pr_tune {σ ρ : my_M} (h : Rel σ ρ) (a0 a1 a2 : Int32) : ∃ (r : Int32) (σ1 ρ1 : my_M), f_X8_tune σ a0 a1 a2 = some (r, σ1) ∧ f_X9_tune ρ a0 a1 a2 = some (r, ρ1) ∧ Rel σ1 ρ1 := sorry
theorem pr_hears {σ ρ : my_M} (h : Rel σ ρ) (a0 a1 a2 a3 : Int32) : ∃ (r : Int32) (σ1 ρ1 : my_M), f_X8_hears σ a0 a1 a2 a3 = some (r, σ1) ∧ f_X9_hears ρ a0 a1 a2 a3 = some (r, ρ1) ∧ Rel σ1 ρ1 := sorry
theorem pr_send {σ ρ : my_M} (h : Rel σ ρ) (a0 a1 a2 : Int32) : ∃ (r : Int32) (σ1 ρ1 : my_M), f_X8_send σ a0 a1 a2 = some (r, σ1) ∧ f_X9_send ρ a0 a1 a2 = some (r, ρ1) ∧ Rel σ1 ρ1 := sorry
theorem pr_unsend {σ ρ : my_M} (h : Rel σ ρ) (a0 : Int32) : ∃ (r : Int32) (σ1 ρ1 : my_M), f_X8_unsend σ a0 = some (r, σ1) ∧ f_X9_unsend ρ a0 = some (r, ρ1) ∧ Rel σ1 ρ1 := sorry
theorem pr_air {σ ρ : my_M} (h : Rel σ ρ) (a0 : Int32) : ∃ (r : Int32) (σ1 ρ1 : my_M), f_X8_air σ a0 = some (r, σ1) ∧ f_X9_air ρ a0 = some (r, ρ1) ∧ Rel σ1 ρ1 := sorry
theorem pr_listen {σ ρ : my_M} (h : Rel σ ρ) (a0 a1 : Int32) : ∃ (r : Int32) (σ1 ρ1 : my_M), f_X8_listen σ a0 a1 = some (r, σ1) ∧ f_X9_listen ρ a0 a1 = some (r, ρ1) ∧ Rel σ1 ρ1 := sorry
theorem pr_loudest {σ ρ : my_M} (h : Rel σ ρ) (a0 a1 : Int32) : ∃ (r : Int32) (σ1 ρ1 : my_M), f_X8_loudest σ a0 a1 = some (r, σ1) ∧ f_X9_loudest ρ a0 a1 = some (r, ρ1) ∧ Rel σ1 ρ1 := sorry
theorem pr_day {σ ρ : my_M} (h : Rel σ ρ) (a0 a1 a2 a3 a4 : Int32) : ∃ (r : Int32) (σ1 ρ1 : my_M), f_X8_day σ a0 a1 a2 a3 a4 = some (r, σ1) ∧ f_X9_day ρ a0 a1 a2 a3 a4 = some (r, ρ1) ∧ Rel σ1 ρ1 := sorry
theorem pr_peak {σ ρ : my_M} (h : Rel σ ρ) (a0 a1 : Int32) : ∃ (r : Int32) (σ1 ρ1 : my_M), f_X8_peak σ a0 a1 = some (r, σ1) ∧ f_X9_peak ρ a0 a1 = some (r, ρ1) ∧ Rel σ1 ρ1 := sorry
theorem pr_clash {σ ρ : my_M} (h : Rel σ ρ) (a0 a1 : Int32) : ∃ (r : Int32) (σ1 ρ1 : my_M), f_X8_clash σ a0 a1 = some (r, σ1) ∧ f_X9_clash ρ a0 a1 = some (r, ρ1) ∧ Rel σ1 ρ1 := sorry
theorem pr_rows {σ ρ : my_M} (h : Rel σ ρ) : ∃ (r : Int32) (σ1 ρ1 : my_M), f_X8_rows σ  = some (r, σ1) ∧ f_X9_rows ρ  = some (r, ρ1) ∧ Rel σ1 ρ1 := sorry
theorem pr_ways {σ ρ : my_M} (h : Rel σ ρ) (a0 a1 : Int32) : ∃ (r : Int32) (σ1 ρ1 : my_M), f_X8_ways σ a0 a1 = some (r, σ1) ∧ f_X9_ways ρ a0 a1 = some (r, ρ1) ∧ Rel σ1 ρ1 := sorry
theorem pr_next {σ ρ : my_M} (h : Rel σ ρ) (a0 a1 : Int32) : ∃ (r : Int32) (σ1 ρ1 : my_M), f_X8_next σ a0 a1 = some (r, σ1) ∧ f_X9_next ρ a0 a1 = some (r, ρ1) ∧ Rel σ1 ρ1 := sorry
theorem pr_reading {σ ρ : my_M} (h : Rel σ ρ) (a0 a1 a2 a3 a4 : Int32) : ∃ (r : Int32) (σ1 ρ1 : my_M), f_X8_reading σ a0 a1 a2 a3 a4 = some (r, σ1) ∧ f_X9_reading ρ a0 a1 a2 a3 a4 = some (r, ρ1) ∧ Rel σ1 ρ1 := sorry
theorem pr_back {σ ρ : my_M} (h : Rel σ ρ) (a0 : Int32) : ∃ (r : Int32) (σ1 ρ1 : my_M), f_X8_back σ a0 = some (r, σ1) ∧ f_X9_back ρ a0 = some (r, ρ1) ∧ Rel σ1 ρ1 := sorry
theorem pr_kinds {σ ρ : my_M} (h : Rel σ ρ) (a0 : Int32) : ∃ (r : Int32) (σ1 ρ1 : my_M), f_X8_kinds σ a0 = some (r, σ1) ∧ f_X9_kinds ρ a0 = some (r, ρ1) ∧ Rel σ1 ρ1 := sorry
theorem pr_pitches {σ ρ : my_M} (h : Rel σ ρ) (a0 a1 : Int32) : ∃ (r : Int32) (σ1 ρ1 : my_M), f_X8_pitches σ a0 a1 = some (r, σ1) ∧ f_X9_pitches ρ a0 a1 = some (r, ρ1) ∧ Rel σ1 ρ1 := sorry
theorem pr_odds {σ ρ : my_M} (h : Rel σ ρ) (a0 a1 a2 : Int32) : ∃ (r : Int64) (σ1 ρ1 : my_M), f_X8_odds σ a0 a1 a2 = some (r, σ1) ∧ f_X9_odds ρ a0 a1 a2 = some (r, ρ1) ∧ Rel σ1 ρ1 := sorry
theorem pr_sheet {σ ρ : my_M} (h : Rel σ ρ) (a0 a1 a2 : Int32) : ∃ (r : Int32) (σ1 ρ1 : my_M), f_X8_sheet σ a0 a1 a2 = some (r, σ1) ∧ f_X9_sheet ρ a0 a1 a2 = some (r, ρ1) ∧ Rel σ1 ρ1 := sorry
theorem pr_lose {σ ρ : my_M} (h : Rel σ ρ) (a0 : Int32) : ∃ (r : Int32) (σ1 ρ1 : my_M), f_X8_lose σ a0 = some (r, σ1) ∧ f_X9_lose ρ a0 = some (r, ρ1) ∧ Rel σ1 ρ1 := sorry
theorem pr_put {σ ρ : my_M} (h : Rel σ ρ) (a0 a1 a2 : Int32) : ∃ (r : Int32) (σ1 ρ1 : my_M), f_X8_put σ a0 a1 a2 = some (r, σ1) ∧ f_X9_put ρ a0 a1 a2 = some (r, ρ1) ∧ Rel σ1 ρ1 := sorry
theorem pr_cell {σ ρ : my_M} (h : Rel σ ρ) (a0 a1 a2 : Int32) : ∃ (r : Int64) (σ1 ρ1 : my_M), f_X8_cell σ a0 a1 a2 = some (r, σ1) ∧ f_X9_cell ρ a0 a1 a2 = some (r, ρ1) ∧ Rel σ1 ρ1 := sorry
theorem pr_copy {σ ρ : my_M} (h : Rel σ ρ) (a0 a1 a2 a3 a4 : Int32) : ∃ (r : Int32) (σ1 ρ1 : my_M), f_X8_copy σ a0 a1 a2 a3 a4 = some (r, σ1) ∧ f_X9_copy ρ a0 a1 a2 a3 a4 = some (r, ρ1) ∧ Rel σ1 ρ1 := sorry
theorem pr_tell {σ ρ : my_M} (h : Rel σ ρ) (a0 : Int32) : ∃ (r : Int32) (σ1 ρ1 : my_M), f_X8_tell σ a0 = some (r, σ1) ∧ f_X9_tell ρ a0 = some (r, ρ1) ∧ Rel σ1 ρ1 := sorry
theorem pr_hail {σ ρ : my_M} (h : Rel σ ρ) (a0 : Int32) : ∃ (r : Int32) (σ1 ρ1 : my_M), f_X8_hail σ a0 = some (r, σ1) ∧ f_X9_hail ρ a0 = some (r, ρ1) ∧ Rel σ1 ρ1 := sorry
theorem pr_as {σ ρ : my_M} (h : Rel σ ρ) (a0 a1 : Int32) : ∃ (r : Int32) (σ1 ρ1 : my_M), f_X8_as σ a0 a1 = some (r, σ1) ∧ f_X9_as ρ a0 a1 = some (r, ρ1) ∧ Rel σ1 ρ1 := sorry
theorem pr_trace {σ ρ : my_M} (h : Rel σ ρ) : ∃ (r : Int32) (σ1 ρ1 : my_M), f_X8_trace σ  = some (r, σ1) ∧ f_X9_trace ρ  = some (r, ρ1) ∧ Rel σ1 ρ1 := sorry
theorem pr_fault {σ ρ : my_M} (h : Rel σ ρ) : ∃ (r : Int32) (σ1 ρ1 : my_M), f_X8_fault σ  = some (r, σ1) ∧ f_X9_fault ρ  = some (r, ρ1) ∧ Rel σ1 ρ1 := sorry
theorem pr_many {σ ρ : my_M} (h : Rel σ ρ) (a0 : Int32) : ∃ (r : Int32) (σ1 ρ1 : my_M), f_X8_many σ a0 = some (r, σ1) ∧ f_X9_many ρ a0 = some (r, ρ1) ∧ Rel σ1 ρ1 := sorry
theorem rel_init : Rel my_s0 my_r0 := sorry
