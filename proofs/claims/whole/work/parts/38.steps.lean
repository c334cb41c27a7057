def xRel (μ ν : xM) : Prop := True
theorem st_town {μ ν : xM} (h : xRel μ ν) : ∃ (r : Int32) (μ2 ν2 : xM), (fH_town μ = some (r, μ2)) ∧ (fM_town ν = some (r, ν2)) ∧ xRel μ2 ν2 := sorry
theorem st_wet {μ ν : xM} (h : xRel μ ν) (v1 : Int32) (v2 : Int32) : ∃ (r : Int32) (μ2 ν2 : xM), (fH_wet v1 v2 μ = some (r, μ2)) ∧ (fM_wet v1 v2 ν = some (r, ν2)) ∧ xRel μ2 ν2 := sorry
theorem st_board {μ ν : xM} (h : xRel μ ν) (v1 : Int32) (v2 : Int32) (v3 : Int32) (v4 : Int32) : ∃ (r : Int32) (μ2 ν2 : xM), (fH_board v1 v2 v3 v4 μ = some (r, μ2)) ∧ (fM_board v1 v2 v3 v4 ν = some (r, ν2)) ∧ xRel μ2 ν2 := sorry
theorem st_make {μ ν : xM} (h : xRel μ ν) (v1 : Int32) : ∃ (r : Int32) (μ2 ν2 : xM), (fH_make v1 μ = some (r, μ2)) ∧ (fM_make v1 ν = some (r, ν2)) ∧ xRel μ2 ν2 := sorry
theorem st_worm {μ ν : xM} (h : xRel μ ν) (v1 : Int32) (v2 : Int32) : ∃ (r : Int32) (μ2 ν2 : xM), (fH_worm v1 v2 μ = some (r, μ2)) ∧ (fM_worm v1 v2 ν = some (r, ν2)) ∧ xRel μ2 ν2 := sorry
theorem st_type {μ ν : xM} (h : xRel μ ν) (v1 : Int32) : ∃ (r : Int32) (μ2 ν2 : xM), (fH_type v1 μ = some (r, μ2)) ∧ (fM_type v1 ν = some (r, ν2)) ∧ xRel μ2 ν2 := sorry
theorem st_clear {μ ν : xM} (h : xRel μ ν) : ∃ (r : Int32) (μ2 ν2 : xM), (fH_clear μ = some (r, μ2)) ∧ (fM_clear ν = some (r, ν2)) ∧ xRel μ2 ν2 := sorry
theorem st_read {μ ν : xM} (h : xRel μ ν) : ∃ (r : Int32) (μ2 ν2 : xM), (fH_read μ = some (r, μ2)) ∧ (fM_read ν = some (r, ν2)) ∧ xRel μ2 ν2 := sorry
theorem st_year {μ ν : xM} (h : xRel μ ν) (v1 : Int32) : ∃ (r : Int32) (μ2 ν2 : xM), (fH_year v1 μ = some (r, μ2)) ∧ (fM_year v1 ν = some (r, ν2)) ∧ xRel μ2 ν2 := sorry
theorem st_cuts {μ ν : xM} (h : xRel μ ν) (v1 : Int32) (v2 : Int32) : ∃ (r : Int32) (μ2 ν2 : xM), (fH_cuts v1 v2 μ = some (r, μ2)) ∧ (fM_cuts v1 v2 ν = some (r, ν2)) ∧ xRel μ2 ν2 := sorry
theorem st_takes {μ ν : xM} (h : xRel μ ν) (v1 : Int32) : ∃ (r : Int32) (μ2 ν2 : xM), (fH_takes v1 μ = some (r, μ2)) ∧ (fM_takes v1 ν = some (r, ν2)) ∧ xRel μ2 ν2 := sorry
theorem st_dries {μ ν : xM} (h : xRel μ ν) (v1 : Int32) (v2 : Int32) : ∃ (r : Int32) (μ2 ν2 : xM), (fH_dries v1 v2 μ = some (r, μ2)) ∧ (fM_dries v1 v2 ν = some (r, ν2)) ∧ xRel μ2 ν2 := sorry
theorem st_undo {μ ν : xM} (h : xRel μ ν) : ∃ (r : Int32) (μ2 ν2 : xM), (fH_undo μ = some (r, μ2)) ∧ (fM_undo ν = some (r, ν2)) ∧ xRel μ2 ν2 := sorry
theorem st_of {μ ν : xM} (h : xRel μ ν) (v1 : Int32) (v2 : Int32) : ∃ (r : Int32) (μ2 ν2 : xM), (fH_of v1 v2 μ = some (r, μ2)) ∧ (fM_of v1 v2 ν = some (r, ν2)) ∧ xRel μ2 ν2 := sorry
theorem st_about {μ ν : xM} (h : xRel μ ν) (v1 : Int32) (v2 : Int32) : ∃ (r : Int32) (μ2 ν2 : xM), (fH_about v1 v2 μ = some (r, μ2)) ∧ (fM_about v1 v2 ν = some (r, ν2)) ∧ xRel μ2 ν2 := sorry
theorem st_sounds {μ ν : xM} (h : xRel μ ν) (v1 : Int32) (v2 : Int32) : ∃ (r : Int32) (μ2 ν2 : xM), (fH_sounds v1 v2 μ = some (r, μ2)) ∧ (fM_sounds v1 v2 ν = some (r, ν2)) ∧ xRel μ2 ν2 := sorry
theorem st_plays {μ ν : xM} (h : xRel μ ν) (v1 : Int32) (v2 : Int32) : ∃ (r : Int32) (μ2 ν2 : xM), (fH_plays v1 v2 μ = some (r, μ2)) ∧ (fM_plays v1 v2 ν = some (r, ν2)) ∧ xRel μ2 ν2 := sorry
theorem st_then {μ ν : xM} (h : xRel μ ν) (v1 : Int32) (v2 : Int32) (v3 : Int32) : ∃ (r : Int32) (μ2 ν2 : xM), (fH_then v1 v2 v3 μ = some (r, μ2)) ∧ (fM_then v1 v2 v3 ν = some (r, ν2)) ∧ xRel μ2 ν2 := sorry
theorem st_waits {μ ν : xM} (h : xRel μ ν) (v1 : Int32) (v2 : Int32) (v3 : Int32) : ∃ (r : Int32) (μ2 ν2 : xM), (fH_waits v1 v2 v3 μ = some (r, μ2)) ∧ (fM_waits v1 v2 v3 ν = some (r, ν2)) ∧ xRel μ2 ν2 := sorry
theorem st_dry {μ ν : xM} (h : xRel μ ν) (v1 : Int32) (v2 : Int32) (v3 : Int32) : ∃ (r : Int32) (μ2 ν2 : xM), (fH_dry v1 v2 v3 μ = some (r, μ2)) ∧ (fM_dry v1 v2 v3 ν = some (r, ν2)) ∧ xRel μ2 ν2 := sorry
theorem st_tune {μ ν : xM} (h : xRel μ ν) (v1 : Int32) (v2 : Int32) (v3 : Int32) : ∃ (r : Int32) (μ2 ν2 : xM), (fH_tune v1 v2 v3 μ = some (r, μ2)) ∧ (fM_tune v1 v2 v3 ν = some (r, ν2)) ∧ xRel μ2 ν2 := sorry
theorem st_best {μ ν : xM} (h : xRel μ ν) (v1 : Int32) (v2 : Int32) : ∃ (r : Int32) (μ2 ν2 : xM), (fH_best v1 v2 μ = some (r, μ2)) ∧ (fM_best v1 v2 ν = some (r, ν2)) ∧ xRel μ2 ν2 := sorry
theorem st_together {μ ν : xM} (h : xRel μ ν) (v1 : Int32) (v2 : Int32) : ∃ (r : Int32) (μ2 ν2 : xM), (fH_together v1 v2 μ = some (r, μ2)) ∧ (fM_together v1 v2 ν = some (r, ν2)) ∧ xRel μ2 ν2 := sorry
theorem st_orchestra {μ ν : xM} (h : xRel μ ν) : ∃ (r : Int32) (μ2 ν2 : xM), (fH_orchestra μ = some (r, μ2)) ∧ (fM_orchestra ν = some r ∧ ν2 = ν) ∧ xRel μ2 ν2 := sorry
theorem st_heard {μ ν : xM} (h : xRel μ ν) (v1 : Int32) (v2 : Int32) : ∃ (r : Int32) (μ2 ν2 : xM), (fH_heard v1 v2 μ = some (r, μ2)) ∧ (fM_heard v1 v2 ν = some (r, ν2)) ∧ xRel μ2 ν2 := sorry
theorem st_whose {μ ν : xM} (h : xRel μ ν) : ∃ (r : Int32) (μ2 ν2 : xM), (fH_whose μ = some r ∧ μ2 = μ) ∧ (fM_whose ν = some r ∧ ν2 = ν) ∧ xRel μ2 ν2 := sorry
theorem st_tells {μ ν : xM} (h : xRel μ ν) : ∃ (r : Int32) (μ2 ν2 : xM), (fH_tells μ = some (r, μ2)) ∧ (fM_tells ν = some (r, ν2)) ∧ xRel μ2 ν2 := sorry
theorem st_note {μ ν : xM} (h : xRel μ ν) (v1 : Int32) (v2 : Int32) (v3 : Int32) (v4 : Int32) (v5 : Int32) : ∃ (r : Int32) (μ2 ν2 : xM), (fH_note v1 v2 v3 v4 v5 μ = some (r, μ2)) ∧ (fM_note v1 v2 v3 v4 v5 ν = some (r, ν2)) ∧ xRel μ2 ν2 := sorry
theorem st_mark {μ ν : xM} (h : xRel μ ν) (v1 : Int32) (v2 : Int32) (v3 : Int32) (v4 : Int32) (v5 : Int32) (v6 : Int32) : ∃ (r : Int32) (μ2 ν2 : xM), (fH_mark v1 v2 v3 v4 v5 v6 μ = some (r, μ2)) ∧ (fM_mark v1 v2 v3 v4 v5 v6 ν = some (r, ν2)) ∧ xRel μ2 ν2 := sorry
theorem st_forget {μ ν : xM} (h : xRel μ ν) (v1 : Int32) : ∃ (r : Int32) (μ2 ν2 : xM), (fH_forget v1 μ = some (r, μ2)) ∧ (fM_forget v1 ν = some (r, ν2)) ∧ xRel μ2 ν2 := sorry
theorem st_is {μ ν : xM} (h : xRel μ ν) (v1 : Int32) : ∃ (r : Int32) (μ2 ν2 : xM), (fH_is v1 μ = some (r, μ2)) ∧ (fM_is v1 ν = some (r, ν2)) ∧ xRel μ2 ν2 := sorry
theorem st_look {μ ν : xM} (h : xRel μ ν) (v1 : Int32) : ∃ (r : Int32) (μ2 ν2 : xM), (fH_look v1 μ = some (r, μ2)) ∧ (fM_look v1 ν = some (r, ν2)) ∧ xRel μ2 ν2 := sorry
theorem st_kinds {μ ν : xM} (h : xRel μ ν) (v1 : Int32) : ∃ (r : Int32) (μ2 ν2 : xM), (fH_kinds v1 μ = some (r, μ2)) ∧ (fM_kinds v1 ν = some (r, ν2)) ∧ xRel μ2 ν2 := sorry
theorem st_ask {μ ν : xM} (h : xRel μ ν) (v1 : Int32) : ∃ (r : Int32) (μ2 ν2 : xM), (fH_ask v1 μ = some (r, μ2)) ∧ (fM_ask v1 ν = some (r, ν2)) ∧ xRel μ2 ν2 := sorry
theorem st_bids {μ ν : xM} (h : xRel μ ν) (v1 : Int32) (v2 : Int32) : ∃ (r : Int32) (μ2 ν2 : xM), (fH_bids v1 v2 μ = some (r, μ2)) ∧ (fM_bids v1 v2 ν = some (r, ν2)) ∧ xRel μ2 ν2 := sorry
theorem st_weeps {μ ν : xM} (h : xRel μ ν) (v1 : Int32) (v2 : Int32) (v3 : Int32) : ∃ (r : Int32) (μ2 ν2 : xM), (fH_weeps v1 v2 v3 μ = some (r, μ2)) ∧ (fM_weeps v1 v2 v3 ν = some (r, ν2)) ∧ xRel μ2 ν2 := sorry
theorem st_generations {μ ν : xM} (h : xRel μ ν) (v1 : Int32) (v2 : Int32) : ∃ (r : Int32) (μ2 ν2 : xM), (fH_generations v1 v2 μ = some (r, μ2)) ∧ (fM_generations v1 v2 ν = some (r, ν2)) ∧ xRel μ2 ν2 := sorry
theorem st_part {μ ν : xM} (h : xRel μ ν) (v1 : Int32) : ∃ (r : Int64) (μ2 ν2 : xM), (fH_part v1 μ = some (r, μ2)) ∧ (fM_part v1 ν = some (r, ν2)) ∧ xRel μ2 ν2 := sorry
theorem st_image {μ ν : xM} (h : xRel μ ν) (v1 : Int32) : ∃ (r : Int32) (μ2 ν2 : xM), (fH_image v1 μ = some (r, μ2)) ∧ (fM_image v1 ν = some (r, ν2)) ∧ xRel μ2 ν2 := sorry
theorem st_from {μ ν : xM} (h : xRel μ ν) (v1 : Int32) : ∃ (r : Int32) (μ2 ν2 : xM), (fH_from v1 μ = some (r, μ2)) ∧ (fM_from v1 ν = some (r, ν2)) ∧ xRel μ2 ν2 := sorry
theorem st_status {μ ν : xM} (h : xRel μ ν) (v1 : Int32) : ∃ (r : Int32) (μ2 ν2 : xM), (fH_status v1 μ = some (r, μ2)) ∧ (fM_status v1 ν = some (r, ν2)) ∧ xRel μ2 ν2 := sorry
theorem st_count {μ ν : xM} (h : xRel μ ν) (v1 : Int32) : ∃ (r : Int32) (μ2 ν2 : xM), (fH_count v1 μ = some (r, μ2)) ∧ (fM_count v1 ν = some (r, ν2)) ∧ xRel μ2 ν2 := sorry
theorem st_digest {μ ν : xM} (h : xRel μ ν) : ∃ (r : Int64) (μ2 ν2 : xM), (fH_digest μ = some (r, μ2)) ∧ (fM_digest ν = some (r, ν2)) ∧ xRel μ2 ν2 := sorry
theorem xRel_start : xRel ((fun a i => if a = 36 then (if i = 2 ∨ i = 9 ∨ i = 16 ∨ i = 23 then 5 else 0) else 0, fun i => if i = 1 then 1 else 0) : xM) ((fun _ _ => 0, fun i => if i = 1 then 1 else 0) : xM) := sorry
