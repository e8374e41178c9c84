/-! THE END. -/
theorem i_vc : Claimed_1_1 ∧ Claimed_1_2 := claim_of (pure_of (fun _ h => s_read h) (fun _ a h => s_write h a) (fun _ a h => s_letter h a))
