/-! ===== LAYER 2: all methods; the start ===== -/
theorem all_sim : AllSim (RelX EvOK) := ⟨sim_letters EvOK, sim_side EvOK, sim_body EvOK, sim_bound EvOK, sim_weight EvOK, sim_mirror EvOK, sim_turn EvOK, sim_copy EvOK, sim_drift EvOK, sim_undo EvOK, sim_told, sim_letter EvOK, sim_back EvOK, sim_space, sim_pair, sim_white, sim_set EvOK, sim_wipe EvOK, sim_place EvOK, sim_sign, sim_keep EvOK, sim_goBack EvOK⟩
def a00 (k : Nat) : Nat := if k = 61 then 20 else if k = 62 then 100 else 0
theorem a00_valid : Valid (newA a00 2) := by
  refine ⟨⟨by decide, by decide⟩, ⟨by decide, by decide⟩, by decide, fun k hk => ?_, fun k hk => ?_, fun k hk => ?_, fun i j hi hj hh => ?_⟩
  · unfold newA
    rw [if_neg (by omega), if_neg (by omega), if_neg (by omega)]
    omega
  · unfold newA
    rw [if_neg (by omega), if_neg (by omega), if_pos (by omega)]
    omega
  · unfold newA
    rw [if_neg (by omega), if_neg (by omega), if_neg (by omega)]
    omega
  · unfold newA
    rw [if_neg (by omega), if_neg (by omega), if_neg (by omega)]
