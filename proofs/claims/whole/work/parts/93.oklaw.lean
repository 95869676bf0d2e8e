/-! ===== laid by gen.py: the law's stretches are in order ===== -/
theorem xokl_0 : (Nat.beq (xpc tr_162_0 0) 0 && xokLB (xoc xlaw) (xcc xlaw) (xown xlaw) (xmt xlaw).2.2.2 (decide ((xy xlaw).name = "<init>")) (xmt xlaw).2.1 tr_162_0) = true := by decide +kernel
theorem xokl_18 : (Nat.beq (xpc tr_162_18 0) 18 && xokLB (xoc xlaw) (xcc xlaw) (xown xlaw) (xmt xlaw).2.2.2 (decide ((xy xlaw).name = "<init>")) (xmt xlaw).2.1 tr_162_18) = true := by decide +kernel
theorem xokl_124 : (Nat.beq (xpc tr_162_124 0) 124 && xokLB (xoc xlaw) (xcc xlaw) (xown xlaw) (xmt xlaw).2.2.2 (decide ((xy xlaw).name = "<init>")) (xmt xlaw).2.1 tr_162_124) = true := by decide +kernel
theorem xokl_137 : (Nat.beq (xpc tr_162_137 0) 137 && xokLB (xoc xlaw) (xcc xlaw) (xown xlaw) (xmt xlaw).2.2.2 (decide ((xy xlaw).name = "<init>")) (xmt xlaw).2.1 tr_162_137) = true := by decide +kernel
theorem xokl_200 : (Nat.beq (xpc tr_162_200 0) 200 && xokLB (xoc xlaw) (xcc xlaw) (xown xlaw) (xmt xlaw).2.2.2 (decide ((xy xlaw).name = "<init>")) (xmt xlaw).2.1 tr_162_200) = true := by decide +kernel
theorem xokl_223 : (Nat.beq (xpc tr_162_223 0) 223 && xokLB (xoc xlaw) (xcc xlaw) (xown xlaw) (xmt xlaw).2.2.2 (decide ((xy xlaw).name = "<init>")) (xmt xlaw).2.1 tr_162_223) = true := by decide +kernel
theorem xokl_286 : (Nat.beq (xpc tr_162_286 0) 286 && xokLB (xoc xlaw) (xcc xlaw) (xown xlaw) (xmt xlaw).2.2.2 (decide ((xy xlaw).name = "<init>")) (xmt xlaw).2.1 tr_162_286) = true := by decide +kernel
theorem xokl_319 : (Nat.beq (xpc tr_162_319 0) 319 && xokLB (xoc xlaw) (xcc xlaw) (xown xlaw) (xmt xlaw).2.2.2 (decide ((xy xlaw).name = "<init>")) (xmt xlaw).2.1 tr_162_319) = true := by decide +kernel
theorem xokl_352 : (Nat.beq (xpc tr_162_352 0) 352 && xokLB (xoc xlaw) (xcc xlaw) (xown xlaw) (xmt xlaw).2.2.2 (decide ((xy xlaw).name = "<init>")) (xmt xlaw).2.1 tr_162_352) = true := by decide +kernel
theorem xokl_375 : (Nat.beq (xpc tr_162_375 0) 375 && xokLB (xoc xlaw) (xcc xlaw) (xown xlaw) (xmt xlaw).2.2.2 (decide ((xy xlaw).name = "<init>")) (xmt xlaw).2.1 tr_162_375) = true := by decide +kernel
theorem xokl_438 : (Nat.beq (xpc tr_162_438 0) 438 && xokLB (xoc xlaw) (xcc xlaw) (xown xlaw) (xmt xlaw).2.2.2 (decide ((xy xlaw).name = "<init>")) (xmt xlaw).2.1 tr_162_438) = true := by decide +kernel
theorem xokl_471 : (Nat.beq (xpc tr_162_471 0) 471 && xokLB (xoc xlaw) (xcc xlaw) (xown xlaw) (xmt xlaw).2.2.2 (decide ((xy xlaw).name = "<init>")) (xmt xlaw).2.1 tr_162_471) = true := by decide +kernel
theorem xokl_524 : (Nat.beq (xpc tr_162_524 0) 524 && xokLB (xoc xlaw) (xcc xlaw) (xown xlaw) (xmt xlaw).2.2.2 (decide ((xy xlaw).name = "<init>")) (xmt xlaw).2.1 tr_162_524) = true := by decide +kernel
theorem xokl_599 : (Nat.beq (xpc tr_162_599 0) 599 && xokLB (xoc xlaw) (xcc xlaw) (xown xlaw) (xmt xlaw).2.2.2 (decide ((xy xlaw).name = "<init>")) (xmt xlaw).2.1 tr_162_599) = true := by decide +kernel
theorem xokl_652 : (Nat.beq (xpc tr_162_652 0) 652 && xokLB (xoc xlaw) (xcc xlaw) (xown xlaw) (xmt xlaw).2.2.2 (decide ((xy xlaw).name = "<init>")) (xmt xlaw).2.1 tr_162_652) = true := by decide +kernel
theorem xokl_675 : (Nat.beq (xpc tr_162_675 0) 675 && xokLB (xoc xlaw) (xcc xlaw) (xown xlaw) (xmt xlaw).2.2.2 (decide ((xy xlaw).name = "<init>")) (xmt xlaw).2.1 tr_162_675) = true := by decide +kernel
theorem xokl_708 : (Nat.beq (xpc tr_162_708 0) 708 && xokLB (xoc xlaw) (xcc xlaw) (xown xlaw) (xmt xlaw).2.2.2 (decide ((xy xlaw).name = "<init>")) (xmt xlaw).2.1 tr_162_708) = true := by decide +kernel
theorem xokl_731 : (Nat.beq (xpc tr_162_731 0) 731 && xokLB (xoc xlaw) (xcc xlaw) (xown xlaw) (xmt xlaw).2.2.2 (decide ((xy xlaw).name = "<init>")) (xmt xlaw).2.1 tr_162_731) = true := by decide +kernel
theorem xokl_754 : (Nat.beq (xpc tr_162_754 0) 754 && xokLB (xoc xlaw) (xcc xlaw) (xown xlaw) (xmt xlaw).2.2.2 (decide ((xy xlaw).name = "<init>")) (xmt xlaw).2.1 tr_162_754) = true := by decide +kernel
theorem xokl_777 : (Nat.beq (xpc tr_162_777 0) 777 && xokLB (xoc xlaw) (xcc xlaw) (xown xlaw) (xmt xlaw).2.2.2 (decide ((xy xlaw).name = "<init>")) (xmt xlaw).2.1 tr_162_777) = true := by decide +kernel
theorem xokl_800 : (Nat.beq (xpc tr_162_800 0) 800 && xokLB (xoc xlaw) (xcc xlaw) (xown xlaw) (xmt xlaw).2.2.2 (decide ((xy xlaw).name = "<init>")) (xmt xlaw).2.1 tr_162_800) = true := by decide +kernel
theorem xokl_813 : (Nat.beq (xpc tr_162_813 0) 813 && xokLB (xoc xlaw) (xcc xlaw) (xown xlaw) (xmt xlaw).2.2.2 (decide ((xy xlaw).name = "<init>")) (xmt xlaw).2.1 tr_162_813) = true := by decide +kernel
theorem xok_162 : xokMB xlaw = true := by
  have h : (tl_162).all (fun q => Nat.beq (xpc q.2 0) q.1 && xokLB (xoc xlaw) (xcc xlaw) (xown xlaw) (xmt xlaw).2.2.2 (decide ((xy xlaw).name = "<init>")) (xmt xlaw).2.1 q.2) = true := by
    simp only [tl_162, List.all_cons, List.all_nil, xokl_0, xokl_18, xokl_124, xokl_137, xokl_200, xokl_223, xokl_286, xokl_319, xokl_352, xokl_375, xokl_438, xokl_471, xokl_524, xokl_599, xokl_652, xokl_675, xokl_708, xokl_731, xokl_754, xokl_777, xokl_800, xokl_813, Bool.and_true, Bool.and_self]
  exact (Bool.and_eq_true _ _).mpr ⟨h, by decide +kernel⟩
