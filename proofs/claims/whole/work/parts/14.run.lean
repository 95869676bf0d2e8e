/-! ===== a call, a stretch and a method of the small machine are the machine's ===== -/
def xPc (b B : Nat) (dC : Nat → ClassId) (dI : Nat → Nat → Nat) (aC : Nat → ClassId) (as : List xV) (S : xS) : Array Value → State → Prop := fun v U => v = (as.map (xcv (xad b B))).toArray ∧ xRep b B dC dI aC U S U.heap ∧ xKK dC dI aC U
def xrv (ad : Nat → Nat) (rk : Nat) (r : xV) : Option Value := match rk with
  | 0 => none
  | _ => some (xcv ad r)
def xQc (b B : Nat) (dC : Nat → ClassId) (dI : Nat → Nat → Nat) (aC : Nat → ClassId) (rk : Nat) (r : xV) (S' : xS) : Array Value → State → Outcome → State → Prop := fun _ st o t => o = .returned (xrv (xad b B) rk r) ∧ xRep b B dC dI aC t S' t.heap ∧ va_F (fun q => B ≤ q) st t
def xrm (d : Nat) (S S' : xS) : Room := { frames := d, cells := S'.1 - S.1, slots := S'.2.1 - S.2.1, locals := 41 * d }
def xws (mu : Nat) : List Cond := Cond.code (xy mu) (xcc mu) (xmt mu).2.2.2 (xret mu) :: xG
/-- a method's contract for one start and one end -/
def xMet (l : Launch) (b B : Nat) (dC : Nat → ClassId) (dI : Nat → Nat → Nat) (aC : Nat → ClassId) (d mu : Nat) (as : List xV) (S : xS) (r : xV) (S' : xS) : Prop :=
  Met l (xy mu) (xws mu) (xrm d S S') (xPc b B dC dI aC as S) (xQc b B dC dI aC (xmt mu).2.1 r S') (S'.1 - S.1) (S'.2.1 - S.2.1) (fun q => B ≤ q)
/-- what a method's callers ask of the tables -/
def xmw (mu : Nat) : Prop := Cond.code (xy mu) (xcc mu) (xmt mu).2.2.2 (xret mu) ∈ xG ∧ Cond.initialized (xy mu).cls ∈ xG ∧ ((xy mu).cls ≠ "java/lang/invoke/MethodHandle" ∧ (xy mu).cls ≠ "java/lang/invoke/VarHandle") ∧ (xmt mu).2.2.2 ≤ 22 ∧ plainName (xy mu).cls = true ∧ mu < xlaw
/-- what a call asks of the tables, by its opcode -/
def xcw (own : String) (ins : Instr) (mu : Nat) : Prop := match ins with
  | .invokevirtual i => xmw mu ∧ (xmt mu).2.2.1 < 11 ∧ (xy mu).cls = xRX (xmt mu).2.2.1 ∧ Cond.methodLink own i (xy mu) ∈ xG ∧ Cond.instanceMethod (xy mu) ∈ xG ∧ Cond.selects (xy mu).cls (xy mu) (xy mu) ∈ xG ∧ ((parseMethodDescriptor (xy mu).desc).map (fun d => d.parameters.length) = some ((xmt mu).1 - 1) ∧ 0 < (xmt mu).1)
  | .invokespecial i => xmw mu ∧ (30 ≤ (xmt mu).2.2.1 ∧ (xmt mu).2.2.1 < 41) ∧ (xy mu).name = "<init>" ∧ (Cond.methodLink own i (xy mu) ∈ xG ∨ Cond.methodLinkNest own i (xy mu) "MatchForge" = xnestA ∨ Cond.methodLinkNest own i (xy mu) "MatchForge" = xnestB) ∧ Cond.instanceMethod (xy mu) ∈ xG ∧ ((parseMethodDescriptor (xy mu).desc).map (fun d => d.parameters.length) = some ((xmt mu).1 - 1) ∧ 0 < (xmt mu).1) ∧ (xret mu = none ∧ (xmt mu).2.1 = 0)
  | .invokestatic i => xmw mu ∧ Cond.methodLink own i (xy mu) ∈ xG ∧ Cond.static (xy mu) ∈ xG ∧ ((parseMethodDescriptor (xy mu).desc).map (fun d => d.parameters.length) = some (xmt mu).1)
  | _ => False
theorem xG_goodIn {mu : Nat} (h : xmw mu) : GoodIn xG (xws mu) := by
  intro w hw
  have hm : w ∈ xG := by
    rcases List.mem_cons.mp hw with rfl | hw
    · exact h.1
    · exact hw
  exact ⟨hm, good_of_word (xG_good hm)⟩
section RUN
variable {p : Program} {l : Launch} {e : Env} {R : Room} {s : State} {m : MethodId} {args : Array Value} {below : List Frame} {meth : Method} {c : Code} {Qw : State → Prop}
variable {cc : ByteArray} {own : String} {b B : Nat} {dC : Nat → ClassId} {dI : Nat → Nat → Nat} {aC : Nat → ClassId} {nL : Nat} {init : Bool} {S0 : xS}
theorem x_back {H : Heap} {locs : List Loc} {cells slots mc ms pc rk : Nat} {lsA : Array Slot} {st0 rest : List Value} {r : xV} {S' : xS} {av : Array Value} (hr : va_Run p l e R s m args below meth c H locs cells slots mc ms (F0 m pc lsA st0) rest (xQc b B dC dI aC rk r S' av) (fun q => B ≤ q)) (hS : va_S (fun q => B ≤ q) s.heap H locs)
    (kk : ∀ (H1 : Heap) (locs1 : List Loc), xRep b B dC dI aC s S' H1 → va_S (fun q => B ≤ q) s.heap H1 locs1 → W p l e R s m args below meth c H1 locs1 (cells + mc) (slots + ms) Qw (F0 m (pc + 3) lsA ((xrv (xad b B) rk r).toList ++ rest))) : W p l e R s m args below meth c H locs cells slots Qw (F0 m pc lsA st0) := by
  intro T hT X
  obtain ⟨v, st₀, t, T', L, h0, X', hL, e1, e2, ⟨hv, hRp, hz, hk⟩, st⟩ := hr T hT X
  cases hv
  rw [h0] at hz hk
  have hal : s.vm.Alike t.vm := by rw [← e2]; exact X'.warmed.alike
  obtain ⟨t2, a1, b1⟩ := kk T'.heap (locs ++ L) (by rw [e1]; exact hRp.moved hal.symm)
    ⟨Nat.le_trans hS.1 (by rw [e1]; exact hz), fun q h1 h2 => by rw [e1, hk q (Nat.lt_of_lt_of_le h1 hS.1) h2]; exact hS.2.1 q h1 h2, fun q hq => by
      rcases List.mem_append.mp hq with h | h
      · exact hS.2.2 q h
      · exact hL q h⟩ T' rfl X'
  exact ⟨t2, st t2 a1, b1⟩
theorem x_blind {as : List xV} {S : xS} : FrameBlind (xPc b B dC dI aC as S) := by
  intro a U g mk q
  exact ⟨q.1, q.2.1.moved (u := U) (U := U.calling g mk a) (Vm.Alike.refl U.vm), q.2.2.same (U := U.calling g mk a) rfl⟩
theorem x_pre {as : List xV} {S : xS} {H : Heap} (hR : xRep b B dC dI aC s S H) (hK : xKK dC dI aC s) : ∀ U : State, U.heap = H → s.WarmedH U.vm → xPc b B dC dI aC as S (as.map (xcv (xad b B))).toArray U := fun U hU hW => ⟨rfl, by rw [hU]; exact hR.moved hW.alike, hK.warm hW⟩
/-- a call -/
theorem xcall_snd (F : xFx p R s m args meth c cc own nL init dC dI aC) {pc a d : Nat} {ins : Instr} {ls : xL} {st : List xV} {S S' : xS} {r : xV} (hcw : xcw own ins a) (hd : decode cc pc = .ok (ins, 3)) (hn : (xmt a).1 ≤ st.length ∧ st.length ≤ (xmt a).1 + 8 ∧ xrecv S (xmt a).2.2.1 (st.take (xmt a).1).reverse)
    (hM : xMet l b B dC dI aC d a (st.take (xmt a).1).reverse S r S') (hRm : d + 1 ≤ R.frames ∧ 41 * (d + 1) ≤ R.locals) (h1' : S.1 ≤ S'.1) (h2' : S.2.1 ≤ S'.2.1) (hc : S'.1 - S0.1 ≤ R.cells) (hs : S'.2.1 - S0.2.1 ≤ R.slots)
    (kk : xWat p l e R s m args below meth c Qw b B dC dI aC nL S0 (pc + 3) ls (match (xmt a).2.1 with | 0 => st.drop (xmt a).1 | _ => r :: st.drop (xmt a).1) S') : xWat p l e R s m args below meth c Qw b B dC dI aC nL S0 pc ls st S := by
  obtain ⟨hx, hb, hml, hown, hts, hK, hin, hfr, hlo⟩ := id F
  intro h1 h2 lsA H locs hl hR hS
  obtain ⟨hn1, hn2, hrv⟩ := hn
  have hfix : CallFix p m c cc nL s args xG own := ⟨hx, hb, hml, hown, hts⟩
  have hstk : st = (st.take (xmt a).1).reverse.reverse ++ st.drop (xmt a).1 := by rw [List.reverse_reverse, List.take_append_drop]
  have hlen : (st.take (xmt a).1).reverse.length = (xmt a).1 := by rw [List.length_reverse, List.length_take]; omega
  generalize has : (st.take (xmt a).1).reverse = as at hM hrv hstk hlen
  generalize hre : st.drop (xmt a).1 = rest at kk hstk
  have hrl : rest.length ≤ 8 := by rw [← hre, List.length_drop]; omega
  have hroomW : 2 * (F0 m pc lsA (st.map (xcv (xad b B)))).monitorRoom + ((rest.map (xcv (xad b B))).map fun v => v.category).sum ≤ 8 := by
    rw [x_sum]; show 2 * 0 + _ ≤ 8; omega
  have fin : va_Run p l e R s m args below meth c H locs (S.1 - S0.1) (S.2.1 - S0.2.1) (S'.1 - S.1) (S'.2.1 - S.2.1) (F0 m pc lsA (st.map (xcv (xad b B)))) (rest.map (xcv (xad b B))) (xQc b B dC dI aC (xmt a).2.1 r S' (as.map (xcv (xad b B))).toArray) (fun q => B ≤ q) → W p l e R s m args below meth c H locs (S.1 - S0.1) (S.2.1 - S0.2.1) Qw (F0 m pc lsA (st.map (xcv (xad b B)))) := by
    intro hr
    refine x_back hr hS (fun H1 locs1 hR1 hS1 => x_widen (k' := S'.1 - S0.1) (n' := S'.2.1 - S0.2.1) (by omega) (by omega) ?_)
    have q := kk (Nat.le_trans h1 h1') (Nat.le_trans h2 h2') lsA H1 locs1 hl hR1 hS1
    have e0 : (match (xmt a).2.1 with | 0 => rest | _ => r :: rest).map (xcv (xad b B)) = (xrv (xad b B) (xmt a).2.1 r).toList ++ rest.map (xcv (xad b B)) := by
      unfold xrv
      cases (xmt a).2.1 <;> rfl
    rw [e0] at q
    exact q
  have hfm : S.1 - S0.1 + (S'.1 - S.1) ≤ R.cells ∧ S.2.1 - S0.2.1 + (S'.2.1 - S.2.1) ≤ R.slots := by omega
  apply fin
  have recv : ∀ {k code : Nat} {as' : List xV}, as = .inr (some k) :: as' → 0 < k → xob S k code → ∃ cellB : Cell, H[xad b B k]? = some cellB ∧ cellB.vm.isStatics = false ∧ s.vm.findClass (xRX (code % 30)) = some cellB.cls := by
    intro k code as' _ hk ho
    obtain ⟨hc0, cell, q1, q2, q3, -⟩ := x_obj hR hk ho
    exact ⟨cell, q1, by rw [q3]; rfl, by rw [q2]; exact (hK.1.1 _ _ (x_cl _ hc0)).2.1⟩
  cases ins with
  | invokevirtual i =>
    obtain ⟨w0, w1, w2, w3, w4, w5, w6, w7⟩ := hcw
    have hr2 : ∃ k as', as = .inr (some k) :: as' ∧ 0 < k ∧ xob S k (xmt a).2.2.1 := by
      unfold xrecv at hrv
      split at hrv
      · rename_i h9; omega
      · rename_i h9; exact ⟨_, _, rfl, hrv.1, hrv.2⟩
      · exact hrv.elim
    obtain ⟨k, as', e1, hk, ho⟩ := hr2
    have hC := recv e1 hk ho
    rw [Nat.mod_eq_of_lt (show (xmt a).2.2.1 < 30 by omega), ← w2] at hC
    subst e1
    have cw : CallW R s args own (xy a).cls i (xy a) (xcc a) (xmt a).2.2.2 (xret a) (xws a) (xrm d S S') (S'.1 - S.1) (S'.2.1 - S.2.1) ((xmt a).1 - 1) := by
      refine cwV (Ts := xG) (ws' := xG) ((xmt a).1 - 1) hts (fun w hw => ?_) rfl rfl rfl ⟨rfl, w0.2.2.1.1, w0.2.2.1.2, w6⟩ ⟨hRm.1, ?_⟩
      · unfold wsV at hw
        rcases List.mem_append.mp hw with hw | hw
        · have hm : w ∈ xG := by
            simp only [List.mem_cons, List.not_mem_nil, or_false] at hw
            rcases hw with rfl | rfl | rfl | rfl
            · exact w3
            · exact w4
            · exact w5
            · exact w0.2.1
          exact ⟨hm, good_of_word (xG_good hm)⟩
        · exact xG_goodIn w0 w hw
      · show 8 + ((xmt a).2.2.2 + 11) + 41 * d ≤ R.locals
        have := w0.2.2.2.1
        omega
    refine va_runV (As := as'.map (xcv (xad b B))) hfix hM cw ⟨x_blind, hC, x_pre hR hK⟩ rfl ?_ hl.1 ?_ hroomW hd hfm
    · rw [List.length_map]; simp only [List.length_cons] at hlen; omega
    · show st.map (xcv (xad b B)) = _
      rw [hstk]
      simp [xcv, va_rf]
  | invokespecial i =>
    obtain ⟨w0, w1, w2, w3, w4, ⟨w6, w7⟩, w8, w9⟩ := hcw
    have hr2 : ∃ k as', as = .inr (some k) :: as' ∧ 0 < k ∧ xob S k (xmt a).2.2.1 := by
      unfold xrecv at hrv
      split at hrv
      · rename_i h9; omega
      · rename_i h9; exact ⟨_, _, rfl, hrv.1, hrv.2⟩
      · exact hrv.elim
    obtain ⟨k, as', e1, hk, ho⟩ := hr2
    subst e1
    have hrooms : (xrm d S S').frames + 1 ≤ R.frames ∧ 8 + ((xmt a).2.2.2 + 11) + (xrm d S S').locals ≤ R.locals := by
      refine ⟨hRm.1, ?_⟩
      show 8 + ((xmt a).2.2.2 + 11) + 41 * d ≤ R.locals
      have := w0.2.2.2.1
      omega
    have hcode : xws a = Cond.code (xy a) (xcc a) (xmt a).2.2.2 none :: xG := by unfold xws; rw [w8]
    have hlen2 : (as'.map (xcv (xad b B))).length = (xmt a).1 - 1 := by
      rw [List.length_map]; simp only [List.length_cons] at hlen; omega
    have hst2 : st.map (xcv (xad b B)) = (as'.map (xcv (xad b B))).reverse ++ .ref (xad b B k) :: rest.map (xcv (xad b B)) := by
      rw [hstk]
      simp [xcv, va_rf]
    rcases w3 with w3 | w3
    · refine va_runI (As := as'.map (xcv (xad b B))) hfix hM (cwI ((xmt a).1 - 1) hts (xG_goodIn w0) hcode rfl rfl (hts _ w0.2.1) (hts _ w3) (hts _ w4) w2 ⟨w0.2.2.1.1, w0.2.2.1.2, w6⟩ hrooms) ⟨x_blind, x_pre hR hK⟩ rfl hlen2 hl.1 hst2 hroomW hd hfm
    · have hnw : va_Nw (.methodLinkNest own i (xy a) "MatchForge") s := by
        rcases w3 with w3 | w3
        · rw [w3]; exact hK.2.1
        · rw [w3]; exact hK.2.2.1
      refine va_runIN (As := as'.map (xcv (xad b B))) hfix hM ⟨va_cnB ((xmt a).1 - 1) hts (xG_goodIn w0) hcode rfl rfl hnw (hts _ w0.2.1) ⟨w0.2.2.1.1, w0.2.2.1.2, w6⟩ hrooms, w2, hts _ w4⟩ ⟨x_blind, x_pre hR hK⟩ rfl hlen2 hl.1 hst2 hroomW hd hfm
  | invokestatic i =>
    obtain ⟨w0, w3, w4, w6⟩ := hcw
    have hrooms : (xrm d S S').frames + 1 ≤ R.frames ∧ 8 + ((xmt a).2.2.2 + 11) + (xrm d S S').locals ≤ R.locals := by
      refine ⟨hRm.1, ?_⟩
      show 8 + ((xmt a).2.2.2 + 11) + 41 * d ≤ R.locals
      have := w0.2.2.2.1
      omega
    refine va_runS (As := as.map (xcv (xad b B))) hfix hM ⟨callB_of (xmt a).1 hts (xG_goodIn w0) rfl rfl rfl (hts _ w0.2.1) (hts _ w3) ⟨w0.2.2.1.1, w0.2.2.1.2, w6⟩ hrooms, hts _ w4⟩ ⟨x_blind, x_pre hR hK⟩ rfl (by rw [List.length_map]; exact hlen) hl.1 ?_ hroomW hd hfm
    show st.map (xcv (xad b B)) = _
    rw [hstk]
    simp
  | _ => exact hcw.elim
end RUN
