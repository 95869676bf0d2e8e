/-! ===== the checks as programs ===== -/
def xmemB (i : Nat) (w : Cond) : Bool := decide (lw_tbl[i]? = some w) && goodWord w
theorem xmemB_ok {i : Nat} {w : Cond} (h : xmemB i w = true) : w ∈ xG := by
  unfold xmemB at h
  rw [Bool.and_eq_true, decide_eq_true_eq] at h
  exact xG_of (List.mem_of_getElem? h.1) h.2
def xwB (oc : Nat) (own : String) (nL : Nat) (init : Bool) (ins : Instr) (a b : Nat) : Bool := match ins with
  | .istore_n k => decide ((k : Nat) < nL)
  | .istore k => decide (k < nL)
  | .astore_n k => decide ((k : Nat) < nL)
  | .astore k => decide (k < nL)
  | .bipush n => decide (-128 ≤ n ∧ n ≤ 127)
  | .sipush n => decide (-32768 ≤ n ∧ n ≤ 32767)
  | .ldc i => xmemB (xwi oc i) (Cond.constant own i (Int32.ofInt (a : Int)))
  | .getfield i => decide (b < xNf a) && xmemB (xwi oc i) (Cond.fieldLink own i (xTX (a % 30) b).1 (xTX (a % 30) b).2.1 (xTX (a % 30) b).2.2.1)
  | .putfield i => decide (b < xNf a) && (decide (a < 60) && (xmemB (xwi oc i) (Cond.fieldLink own i (xTX (a % 30) b).1 (xTX (a % 30) b).2.1 (xTX (a % 30) b).2.2.1) && decide ((xTX (a % 30) b).2.2.2 = true → init = true ∧ (xTX (a % 30) b).1 = own)))
  | .newarray t => decide (xatype t = a) && (decide (0 < a) && xmemB (xwac a) (Cond.arrayClass (newarray.typeOf t)))
  | .anewarray i => xmemB (xwi oc i) (Cond.classLink own i "MatchForge$Match")
  | .new i => decide (30 ≤ a) && (decide (a - 30 < 11) && (xmemB (xwi oc i) (Cond.classLink own i (xRX (a - 30))) && (xmemB (xwin (a - 30)) (Cond.instantiable (xRX (a - 30)) (xNf (a - 30))) && xmemB (xwit (a - 30)) (Cond.initialized (xRX (a - 30))))))
  | .aastore => decide (a = 3)
  | .nop => decide (b < 11)
  | .invokespecial i => xmemB (xwi oc i) (Cond.methodLink own i objectInit) && (xmemB (xwx 0) (Cond.instanceMethod objectInit) && xmemB (xwx 1) (Cond.code objectInit ⟨#[0xb1]⟩ 1 none))
  | .invokestatic i => bif Nat.beq a 1001 then xmemB (xwi oc i) (Cond.methodLink own i arraycopyName) && (xmemB (xwx 2) (Cond.native arraycopyName) && (xmemB (xwx 3) (Cond.static arraycopyName) && xmemB (xwx 4) (Cond.initialized "java/lang/System"))) else bif Nat.beq a 1002 then xmemB (xwi oc i) (Cond.methodLink own i Lib.Math.max.name) && (xmemB (xwx 5) (Cond.static Lib.Math.max.name) && (xmemB (xwx 6) (Cond.initialized "java/lang/Math") && xmemB (xwx 7) (Cond.code Lib.Math.max.name Lib.Math.max.code 2 (some .int)))) else bif Nat.beq a 1003 then xmemB (xwi oc i) (Cond.methodLink own i Lib.Math.min.name) && (xmemB (xwx 8) (Cond.static Lib.Math.min.name) && (xmemB (xwx 6) (Cond.initialized "java/lang/Math") && xmemB (xwx 9) (Cond.code Lib.Math.min.name Lib.Math.min.code 2 (some .int)))) else false
  | _ => true
theorem xwB_ok {oc : Nat} {own : String} {nL : Nat} {init : Bool} {ins : Instr} {a b : Nat} (h : xwB oc own nL init ins a b = true) : xwo own nL init ins a b := by
  cases ins with
  | istore_n k => exact (show (k : Nat) < nL from of_decide_eq_true h)
  | istore k => exact (show k < nL from of_decide_eq_true h)
  | astore_n k => exact (show (k : Nat) < nL from of_decide_eq_true h)
  | astore k => exact (show k < nL from of_decide_eq_true h)
  | bipush n => exact (show -128 ≤ n ∧ n ≤ 127 from of_decide_eq_true h)
  | sipush n => exact (show -32768 ≤ n ∧ n ≤ 32767 from of_decide_eq_true h)
  | ldc i => exact xmemB_ok h
  | getfield i =>
    obtain ⟨h1, h2⟩ := (Bool.and_eq_true _ _).mp h
    exact ⟨of_decide_eq_true h1, xmemB_ok h2⟩
  | putfield i =>
    obtain ⟨h1, h2⟩ := (Bool.and_eq_true _ _).mp h
    obtain ⟨h2, h3⟩ := (Bool.and_eq_true _ _).mp h2
    obtain ⟨h3, h4⟩ := (Bool.and_eq_true _ _).mp h3
    exact ⟨of_decide_eq_true h1, of_decide_eq_true h2, xmemB_ok h3, of_decide_eq_true h4⟩
  | newarray t =>
    obtain ⟨h1, h2⟩ := (Bool.and_eq_true _ _).mp h
    obtain ⟨h2, h3⟩ := (Bool.and_eq_true _ _).mp h2
    exact ⟨of_decide_eq_true h1, of_decide_eq_true h2, xmemB_ok h3⟩
  | anewarray i => exact xmemB_ok h
  | new i =>
    obtain ⟨h1, h2⟩ := (Bool.and_eq_true _ _).mp h
    obtain ⟨h2, h3⟩ := (Bool.and_eq_true _ _).mp h2
    obtain ⟨h3, h4⟩ := (Bool.and_eq_true _ _).mp h3
    obtain ⟨h4, h5⟩ := (Bool.and_eq_true _ _).mp h4
    exact ⟨of_decide_eq_true h1, of_decide_eq_true h2, xmemB_ok h3, xmemB_ok h4, xmemB_ok h5⟩
  | aastore => exact (show a = 3 from of_decide_eq_true h)
  | nop => exact fun _ => of_decide_eq_true h
  | invokespecial i =>
    obtain ⟨h1, h2⟩ := (Bool.and_eq_true _ _).mp h
    obtain ⟨h2, h3⟩ := (Bool.and_eq_true _ _).mp h2
    exact fun _ => ⟨xmemB_ok h1, xmemB_ok h2, xmemB_ok h3⟩
  | invokestatic i =>
    have four : ∀ {w1 w2 w3 w4 : Cond} {i1 i2 i3 i4 : Nat}, (xmemB i1 w1 && (xmemB i2 w2 && (xmemB i3 w3 && xmemB i4 w4))) = true → w1 ∈ xG ∧ w2 ∈ xG ∧ w3 ∈ xG ∧ w4 ∈ xG := by
      intro w1 w2 w3 w4 i1 i2 i3 i4 h
      obtain ⟨h1, h2⟩ := (Bool.and_eq_true _ _).mp h
      obtain ⟨h2, h3⟩ := (Bool.and_eq_true _ _).mp h2
      obtain ⟨h3, h4⟩ := (Bool.and_eq_true _ _).mp h3
      exact ⟨xmemB_ok h1, xmemB_ok h2, xmemB_ok h3, xmemB_ok h4⟩
    refine ⟨fun ha => ?_, fun ha => ?_, fun ha => ?_⟩
    · subst ha; exact four h
    · subst ha; exact four h
    · subst ha; exact four h
  | _ => exact trivial
/-- what is asked of a method once; its code word comes by its place (19) -/
def xmwB (mu : Nat) : Bool := xmemB (xwmi mu) (Cond.initialized (xy mu).cls) && (decide ((xy mu).cls ≠ "java/lang/invoke/MethodHandle" ∧ (xy mu).cls ≠ "java/lang/invoke/VarHandle") && (decide ((xmt mu).2.2.2 ≤ 22) && (decide (plainName (xy mu).cls = true) && decide (mu < xlaw))))
theorem xmwB_ok {mu : Nat} (h0 : Cond.code (xy mu) (xcc mu) (xmt mu).2.2.2 (xret mu) ∈ lw_tbl) (h2 : xmwB mu = true) : xmw mu := by
  unfold xmwB at h2
  obtain ⟨h2, h3⟩ := (Bool.and_eq_true _ _).mp h2
  obtain ⟨h3, h4⟩ := (Bool.and_eq_true _ _).mp h3
  obtain ⟨h4, h5⟩ := (Bool.and_eq_true _ _).mp h4
  obtain ⟨h5, h6⟩ := (Bool.and_eq_true _ _).mp h5
  exact ⟨xG_of h0 rfl, xmemB_ok h2, of_decide_eq_true h3, of_decide_eq_true h4, of_decide_eq_true h5, of_decide_eq_true h6⟩
def xviB (mu : Nat) : Bool := decide ((xmt mu).2.2.1 < 11) && (decide ((xy mu).cls = xRX (xmt mu).2.2.1) && (xmemB (xwmm mu) (Cond.instanceMethod (xy mu)) && (xmemB (xwms mu) (Cond.selects (xy mu).cls (xy mu) (xy mu)) && decide ((parseMethodDescriptor (xy mu).desc).map (fun d => d.parameters.length) = some ((xmt mu).1 - 1) ∧ 0 < (xmt mu).1))))
def xspB (mu : Nat) : Bool := decide (30 ≤ (xmt mu).2.2.1 ∧ (xmt mu).2.2.1 < 41) && (decide ((xy mu).name = "<init>") && (xmemB (xwmm mu) (Cond.instanceMethod (xy mu)) && (decide ((parseMethodDescriptor (xy mu).desc).map (fun d => d.parameters.length) = some ((xmt mu).1 - 1) ∧ 0 < (xmt mu).1) && decide (xret mu = none ∧ (xmt mu).2.1 = 0))))
def xstB (mu : Nat) : Bool := xmemB (xwmt mu) (Cond.static (xy mu)) && decide ((parseMethodDescriptor (xy mu).desc).map (fun d => d.parameters.length) = some (xmt mu).1)
def xkB (mu : Nat) : Bool := xmwB mu && (bif Nat.blt (xmt mu).2.2.1 11 then xviB mu else bif Nat.blt (xmt mu).2.2.1 1000 then xspB mu else xstB mu)
/-- every method has its code word, and is what its number says -/
def xhall : Prop := ∀ mu, mu < xlaw → Cond.code (xy mu) (xcc mu) (xmt mu).2.2.2 (xret mu) ∈ lw_tbl ∧ xkB mu = true
def xcwB (oc : Nat) (own : String) (ins : Instr) (mu : Nat) : Bool := match ins with
  | .invokevirtual i => decide (mu < xlaw ∧ (xmt mu).2.2.1 < 11) && xmemB (xwi oc i) (Cond.methodLink own i (xy mu))
  | .invokespecial i => decide (mu < xlaw ∧ 30 ≤ (xmt mu).2.2.1 ∧ (xmt mu).2.2.1 < 41) && (xmemB (xwi oc i) (Cond.methodLink own i (xy mu)) || (decide (Cond.methodLinkNest own i (xy mu) "MatchForge" = xnestA) || decide (Cond.methodLinkNest own i (xy mu) "MatchForge" = xnestB)))
  | .invokestatic i => decide (mu < xlaw ∧ 1000 ≤ (xmt mu).2.2.1) && xmemB (xwi oc i) (Cond.methodLink own i (xy mu))
  | _ => false
theorem xblt_f {a b : Nat} (h : b ≤ a) : Nat.blt a b = false := by
  rw [Bool.eq_false_iff]; intro q; rw [Nat.blt_eq] at q; omega
theorem xcwB_ok (hall : xhall) {oc : Nat} {own : String} {ins : Instr} {mu : Nat} (h : xcwB oc own ins mu = true) : xcw own ins mu := by
  cases ins with
  | invokevirtual i =>
    obtain ⟨h1, h3⟩ := (Bool.and_eq_true _ _).mp h
    obtain ⟨hmu, hr⟩ := of_decide_eq_true h1
    obtain ⟨hc, hk⟩ := hall mu hmu
    unfold xkB at hk
    obtain ⟨h1, h2⟩ := (Bool.and_eq_true _ _).mp hk
    rw [show Nat.blt (xmt mu).2.2.1 11 = true from (Nat.blt_eq).mpr hr] at h2
    simp only [cond_true] at h2
    unfold xviB at h2
    obtain ⟨k1, k2⟩ := (Bool.and_eq_true _ _).mp h2
    obtain ⟨k2, k3⟩ := (Bool.and_eq_true _ _).mp k2
    obtain ⟨k3, k4⟩ := (Bool.and_eq_true _ _).mp k3
    obtain ⟨k4, k5⟩ := (Bool.and_eq_true _ _).mp k4
    exact ⟨xmwB_ok hc h1, of_decide_eq_true k1, of_decide_eq_true k2, xmemB_ok h3, xmemB_ok k3, xmemB_ok k4, of_decide_eq_true k5⟩
  | invokespecial i =>
    obtain ⟨h1, h3⟩ := (Bool.and_eq_true _ _).mp h
    obtain ⟨hmu, hr1, hr2⟩ := of_decide_eq_true h1
    obtain ⟨hc, hk⟩ := hall mu hmu
    unfold xkB at hk
    obtain ⟨h1, h2⟩ := (Bool.and_eq_true _ _).mp hk
    rw [xblt_f (show 11 ≤ (xmt mu).2.2.1 by omega), show Nat.blt (xmt mu).2.2.1 1000 = true from (Nat.blt_eq).mpr (by omega)] at h2
    simp only [cond_true, cond_false] at h2
    unfold xspB at h2
    obtain ⟨k1, k2⟩ := (Bool.and_eq_true _ _).mp h2
    obtain ⟨k2, k3⟩ := (Bool.and_eq_true _ _).mp k2
    obtain ⟨k3, k4⟩ := (Bool.and_eq_true _ _).mp k3
    obtain ⟨k4, k5⟩ := (Bool.and_eq_true _ _).mp k4
    refine ⟨xmwB_ok hc h1, of_decide_eq_true k1, of_decide_eq_true k2, ?_, xmemB_ok k3, of_decide_eq_true k4, of_decide_eq_true k5⟩
    rw [Bool.or_eq_true, Bool.or_eq_true, decide_eq_true_eq, decide_eq_true_eq] at h3
    rcases h3 with h3 | h3 | h3
    · exact Or.inl (xmemB_ok h3)
    · exact Or.inr (Or.inl h3)
    · exact Or.inr (Or.inr h3)
  | invokestatic i =>
    obtain ⟨h1, h3⟩ := (Bool.and_eq_true _ _).mp h
    obtain ⟨hmu, hr⟩ := of_decide_eq_true h1
    obtain ⟨hc, hk⟩ := hall mu hmu
    unfold xkB at hk
    obtain ⟨h1, h2⟩ := (Bool.and_eq_true _ _).mp hk
    rw [xblt_f (show 11 ≤ (xmt mu).2.2.1 by omega), xblt_f hr] at h2
    simp only [cond_false] at h2
    unfold xstB at h2
    obtain ⟨k1, k2⟩ := (Bool.and_eq_true _ _).mp h2
    exact ⟨xmwB_ok hc h1, xmemB_ok h3, xmemB_ok k1, of_decide_eq_true k2⟩
  | _ => exact absurd h (by simp [xcwB])
def xdB (cc : ByteArray) (pc : Nat) (ins : Instr) (n : Nat) : Bool := decide (decode cc pc = .ok (ins, n))
def xokEB (oc : Nat) (cc : ByteArray) (own : String) (nL : Nat) (init : Bool) (rk pc : Nat) (ins : Instr) (a b : Nat) (rest : List xI) : Bool := match ins with
  | .nop => decide (a = 2 → xpc rest 0 = pc ∧ b < 11)
  | .if_icmp _ off => xdB cc pc ins 3 && decide (xpc rest 0 = pc + 3 ∧ (a = 0 → (pc : Int) + off = (xpc rest b : Int)) ∧ (a ≠ 0 → (pc : Int) + off = (b : Int)))
  | .ifCond _ off => xdB cc pc ins 3 && decide (xpc rest 0 = pc + 3 ∧ (a = 0 → (pc : Int) + off = (xpc rest b : Int)) ∧ (a ≠ 0 → (pc : Int) + off = (b : Int)))
  | .goto off => xdB cc pc ins 3 && decide ((a = 0 → (pc : Int) + off = (xpc rest b : Int)) ∧ (a ≠ 0 → (pc : Int) + off = (b : Int)))
  | .tableswitch d lo hi offs => xdB cc pc ins b && decide (0 ≤ (pc : Int) + d ∧ (∀ o ∈ offs.toList, 0 ≤ (pc : Int) + o) ∧ (offs.size : Int) = hi - lo + 1)
  | .ireturn => xdB cc pc ins 1 && decide (a = rk ∧ rk ≠ 0 ∧ rk ≠ 3)
  | .areturn => xdB cc pc ins 1 && decide (rk = 3)
  | .return_ => xdB cc pc ins 1 && decide (rk = 0)
  | .invokevirtual _ => xdB cc pc ins 3 && (decide (xpc rest 0 = pc + 3) && xcwB oc own ins a)
  | .invokespecial _ => xdB cc pc ins 3 && (decide (xpc rest 0 = pc + 3) && (bif Nat.beq a 1000 then xwB oc own nL init ins a b else xcwB oc own ins a))
  | .invokestatic _ => xdB cc pc ins 3 && (decide (xpc rest 0 = pc + 3) && (bif Nat.ble 1001 a then xwB oc own nL init ins a b else xcwB oc own ins a))
  | _ => xdB cc pc ins (xlen ins) && (decide (xpc rest 0 = pc + xlen ins) && xwB oc own nL init ins a b)
theorem xokEB_ok (hall : xhall) {oc : Nat} {cc : ByteArray} {own : String} {nL : Nat} {init : Bool} {rk pc : Nat} {ins : Instr} {a b : Nat} {rest : List xI} (h : xokEB oc cc own nL init rk pc ins a b rest = true) : xokE cc own nL init rk pc ins a b rest := by
  cases ins with
  | nop => exact (show a = 2 → xpc rest 0 = pc ∧ b < 11 from of_decide_eq_true h)
  | if_icmp c o => obtain ⟨h1, h2⟩ := (Bool.and_eq_true _ _).mp h; exact ⟨of_decide_eq_true h1, of_decide_eq_true h2⟩
  | ifCond c o => obtain ⟨h1, h2⟩ := (Bool.and_eq_true _ _).mp h; exact ⟨of_decide_eq_true h1, of_decide_eq_true h2⟩
  | goto o => obtain ⟨h1, h2⟩ := (Bool.and_eq_true _ _).mp h; exact ⟨of_decide_eq_true h1, of_decide_eq_true h2⟩
  | tableswitch d lo hi offs => obtain ⟨h1, h2⟩ := (Bool.and_eq_true _ _).mp h; exact ⟨of_decide_eq_true h1, of_decide_eq_true h2⟩
  | ireturn => obtain ⟨h1, h2⟩ := (Bool.and_eq_true _ _).mp h; exact ⟨of_decide_eq_true h1, of_decide_eq_true h2⟩
  | areturn => obtain ⟨h1, h2⟩ := (Bool.and_eq_true _ _).mp h; exact ⟨of_decide_eq_true h1, of_decide_eq_true h2⟩
  | return_ => obtain ⟨h1, h2⟩ := (Bool.and_eq_true _ _).mp h; exact ⟨of_decide_eq_true h1, of_decide_eq_true h2⟩
  | invokevirtual i =>
    obtain ⟨h1, h2⟩ := (Bool.and_eq_true _ _).mp h
    obtain ⟨h2, h3⟩ := (Bool.and_eq_true _ _).mp h2
    exact ⟨of_decide_eq_true h1, of_decide_eq_true h2, xcwB_ok hall h3⟩
  | invokespecial i =>
    obtain ⟨h1, h2⟩ := (Bool.and_eq_true _ _).mp h
    obtain ⟨h2, h3⟩ := (Bool.and_eq_true _ _).mp h2
    refine ⟨of_decide_eq_true h1, of_decide_eq_true h2, fun ha => ?_, fun ha => ?_⟩
    · subst ha; exact xwB_ok h3
    · have e : Nat.beq a 1000 = false := by rw [Bool.eq_false_iff]; intro q; exact ha (Nat.eq_of_beq_eq_true q)
      rw [e] at h3
      exact xcwB_ok hall h3
  | invokestatic i =>
    obtain ⟨h1, h2⟩ := (Bool.and_eq_true _ _).mp h
    obtain ⟨h2, h3⟩ := (Bool.and_eq_true _ _).mp h2
    refine ⟨of_decide_eq_true h1, of_decide_eq_true h2, fun ha => ?_, fun ha => ?_⟩
    · rw [show Nat.ble 1001 a = true from Nat.ble_eq.mpr ha] at h3; exact xwB_ok h3
    · have e : Nat.ble 1001 a = false := by rw [Bool.eq_false_iff]; intro q; exact ha (Nat.ble_eq.mp q)
      rw [e] at h3
      exact xcwB_ok hall h3
  | _ =>
    obtain ⟨h1, h2⟩ := (Bool.and_eq_true _ _).mp h
    obtain ⟨h2, h3⟩ := (Bool.and_eq_true _ _).mp h2
    exact ⟨of_decide_eq_true h1, of_decide_eq_true h2, xwB_ok h3⟩
def xokLB (oc : Nat) (cc : ByteArray) (own : String) (nL : Nat) (init : Bool) (rk : Nat) : List xI → Bool
  | [] => true
  | (pc, ins, a, b) :: rest => xokEB oc cc own nL init rk pc ins a b rest && xokLB oc cc own nL init rk rest
theorem xokLB_ok (hall : xhall) {oc : Nat} {cc : ByteArray} {own : String} {nL : Nat} {init : Bool} {rk : Nat} : ∀ {L : List xI}, xokLB oc cc own nL init rk L = true → xokL cc own nL init rk L
  | [], _ => trivial
  | (pc, ins, a, b) :: rest, h => by
    obtain ⟨h1, h2⟩ := (Bool.and_eq_true _ _).mp h
    exact ⟨xokEB_ok hall h1, xokLB_ok hall h2⟩
def xokTB (oc : Nat) (cc : ByteArray) (own : String) (nL : Nat) (init : Bool) (rk : Nat) (tl : List (Nat × List xI)) : Bool := tl.all (fun q => Nat.beq (xpc q.2 0) q.1 && xokLB oc cc own nL init rk q.2)
def xokMB (mu : Nat) : Bool := xokTB (xoc mu) (xcc mu) (xown mu) (xmt mu).2.2.2 (decide ((xy mu).name = "<init>")) (xmt mu).2.1 (xtl mu) && (decide ((xy mu).cls = xown mu) && decide ((xmt mu).1 ≤ (xmt mu).2.2.2 ∧ ((xmt mu).2.1 = 0 → xret mu = none) ∧ ((xmt mu).2.1 = 1 → xret mu = some .int) ∧ ((xmt mu).2.1 = 2 → xret mu = some .boolean) ∧ ((xmt mu).2.1 = 3 → xret mu = some (.array .int)) ∧ (xmt mu).2.1 ≤ 3))
theorem xokMB_ok (hall : xhall) {mu : Nat} (h : xokMB mu = true) : xokM mu := by
  unfold xokMB at h
  obtain ⟨h1, h2⟩ := (Bool.and_eq_true _ _).mp h
  obtain ⟨h2, h3⟩ := (Bool.and_eq_true _ _).mp h2
  have h3 := of_decide_eq_true h3
  refine ⟨fun q hq => ?_, of_decide_eq_true h2, h3.1, h3.2⟩
  have h4 := List.all_eq_true.mp h1 q hq
  obtain ⟨h4, h5⟩ := (Bool.and_eq_true _ _).mp h4
  exact ⟨Nat.eq_of_beq_eq_true h4, xokLB_ok hall h5⟩
