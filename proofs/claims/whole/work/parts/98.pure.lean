def zInv (S : zT) : Prop := True
theorem zInv_all : zK_all zInv := sorry
theorem zInv_start : ∃ S1, fX6_makeAnew 0 4 0 zZ = some S1 ∧ zInv (zLB S1) := sorry
