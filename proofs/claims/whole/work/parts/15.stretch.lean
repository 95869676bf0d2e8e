def xpc (L : List xI) (sk : Nat) : Nat := match L.drop sk with
  | e :: _ => e.1
  | [] => 0
/-- what the code and the tables must say of one entry of a stretch -/
def xokE (cc : ByteArray) (own : String) (nL : Nat) (init : Bool) (rk pc : Nat) (ins : Instr) (a b : Nat) (rest : List xI) : Prop := match ins with
  | .nop => a = 2 → xpc rest 0 = pc ∧ b < 11
  | .if_icmp _ off => decode cc pc = .ok (ins, 3) ∧ xpc rest 0 = pc + 3 ∧ (a = 0 → (pc : Int) + off = (xpc rest b : Int)) ∧ (a ≠ 0 → (pc : Int) + off = (b : Int))
  | .ifCond _ off => decode cc pc = .ok (ins, 3) ∧ xpc rest 0 = pc + 3 ∧ (a = 0 → (pc : Int) + off = (xpc rest b : Int)) ∧ (a ≠ 0 → (pc : Int) + off = (b : Int))
  | .goto off => decode cc pc = .ok (ins, 3) ∧ (a = 0 → (pc : Int) + off = (xpc rest b : Int)) ∧ (a ≠ 0 → (pc : Int) + off = (b : Int))
  | .tableswitch d lo hi offs => decode cc pc = .ok (ins, b) ∧ 0 ≤ (pc : Int) + d ∧ (∀ o ∈ offs.toList, 0 ≤ (pc : Int) + o) ∧ (offs.size : Int) = hi - lo + 1
  | .ireturn => decode cc pc = .ok (ins, 1) ∧ a = rk ∧ rk ≠ 0 ∧ rk ≠ 3
  | .areturn => decode cc pc = .ok (ins, 1) ∧ rk = 3
  | .return_ => decode cc pc = .ok (ins, 1) ∧ rk = 0
  | .invokevirtual _ => decode cc pc = .ok (ins, 3) ∧ xpc rest 0 = pc + 3 ∧ xcw own ins a
  | .invokespecial _ => decode cc pc = .ok (ins, 3) ∧ xpc rest 0 = pc + 3 ∧ (a = 1000 → xwo own nL init ins a b) ∧ (a ≠ 1000 → xcw own ins a)
  | .invokestatic _ => decode cc pc = .ok (ins, 3) ∧ xpc rest 0 = pc + 3 ∧ (1001 ≤ a → xwo own nL init ins a b) ∧ (¬ 1001 ≤ a → xcw own ins a)
  | _ => decode cc pc = .ok (ins, xlen ins) ∧ xpc rest 0 = pc + xlen ins ∧ xwo own nL init ins a b
def xokL (cc : ByteArray) (own : String) (nL : Nat) (init : Bool) (rk : Nat) : List xI → Prop
  | [] => True
  | (pc, ins, a, b) :: rest => xokE cc own nL init rk pc ins a b rest ∧ xokL cc own nL init rk rest
theorem xsim_len {T : Nat → Nat → Nat × Nat} {N : Nat → Nat} {ins : Instr} {a b : Nat} {ls ls' : xL} {st st' : List xV} {S S' : xS} {g : Option Prop} (h : xsim T N ins a b ls st S = some (g, ls', st', S')) : ls'.length = ls.length := by
  unfold xsim at h
  split at h
  all_goals (try (split at h))
  all_goals (try (split at h))
  all_goals (first | (cases h; done) | (simp only [Option.some.injEq, Prod.mk.injEq] at h; obtain ⟨-, rfl, -, -⟩ := h; simp))
section STR
variable {p : Program} {l : Launch} {e : Env} {R : Room} {s : State} {m : MethodId} {args : Array Value} {below : List Frame} {meth : Method} {c : Code} {Qw : State → Prop}
variable {cc : ByteArray} {own : String} {b B : Nat} {dC : Nat → ClassId} {dI : Nat → Nat → Nat} {aC : Nat → ClassId} {nL : Nat} {init : Bool} {S0 : xS} {rk d : Nat}
variable {C : Nat → List xV → xS → (xV → xS → Prop) → Prop} {K : Nat → xL → List xV → xS → Prop} {Qx : xV → xS → Prop}
set_option maxHeartbeats 4000000 in
theorem xgo_snd (F : xFx p R s m args meth c cc own nL init dC dI aC) (hC : ∀ a as S Q, xmw a → as.length = (xmt a).1 → C a as S Q → ∃ r S', Q r S' ∧ S.1 ≤ S'.1 ∧ S.2.1 ≤ S'.2.1 ∧ xMet l b B dC dI aC d a as S r S') (hCn : ∀ a, xall ≤ a → ∀ as S Q, ¬ C a as S Q) (hRm : d + 1 ≤ R.frames ∧ 41 * (d + 1) ≤ R.locals)
    (hbd : ∀ L sk ls st S, xgo xft xNf xmt C K Qx L sk ls st S → S.1 - S0.1 ≤ R.cells ∧ S.2.1 - S0.2.1 ≤ R.slots)
    (hK : ∀ pc ls st S, ls.length = nL → K pc ls st S → xWat p l e R s m args below meth c Qw b B dC dI aC nL S0 pc ls st S)
    (hQi : ∀ pc ls x S, decode cc pc = .ok (.ireturn, 1) → (rk ≠ 0 ∧ rk ≠ 3) → (rk = 2 → x = 0 ∨ x = 1) → Qx (.inl x) S → xWat p l e R s m args below meth c Qw b B dC dI aC nL S0 pc ls [.inl x] S)
    (hQv : ∀ pc ls S, decode cc pc = .ok (.return_, 1) → rk = 0 → Qx (.inl 0) S → xWat p l e R s m args below meth c Qw b B dC dI aC nL S0 pc ls [] S)
    (hQa : ∀ pc ls r S, decode cc pc = .ok (.areturn, 1) → rk = 3 → Qx (.inr r) S → xWat p l e R s m args below meth c Qw b B dC dI aC nL S0 pc ls [.inr r] S) :
    ∀ L, xokL cc own nL init rk L → ∀ sk ls st S, ls.length = nL → xgo xft xNf xmt C K Qx L sk ls st S → xWat p l e R s m args below meth c Qw b B dC dI aC nL S0 (xpc L sk) ls st S := by
  have F2 := F
  obtain ⟨hx, hb, hml, hown, hts, hKK, hin, hfr, hlo⟩ := F
  intro L
  induction L with
  | nil => intro _ sk ls st S _ h; simp only [xgo] at h
  | cons en rest ih =>
    intro hok sk ls st S hlen h
    obtain ⟨pc, ins, a, b'⟩ := en
    obtain ⟨hE, hrest⟩ := hok
    cases sk with
    | succ sk =>
      simp only [xgo] at h
      exact ih hrest sk ls st S hlen h
    | zero =>
      have hpc : xpc ((pc, ins, a, b') :: rest) 0 = pc := rfl
      rw [hpc]
      simp only [xgo] at h
      cases hsim : xsim xft xNf ins a b' ls st S with
      | some q =>
        obtain ⟨g, ls', st', S'⟩ := q
        rw [hsim] at h
        have hl' : ls'.length = nL := by rw [xsim_len hsim]; exact hlen
        have hgh : (∀ P, g = some P → P) ∧ xgo xft xNf xmt C K Qx rest 0 ls' st' S' := by
          cases g with
          | none => exact ⟨fun P hP => (by cases hP), h⟩
          | some g => exact ⟨fun P hP => by cases hP; exact h.1, h.2⟩
        obtain ⟨hg, hgo⟩ := hgh
        have hkk := ih hrest 0 ls' st' S' hl' hgo
        obtain ⟨hc, hs⟩ := hbd _ _ _ _ _ hgo
        have main : (ins ≠ .nop → decode cc pc = .ok (ins, xlen ins)) → xpc rest 0 = pc + xlen ins → xwo own nL init ins a b' → xWat p l e R s m args below meth c Qw b B dC dI aC nL S0 pc ls st S := by
          intro k1 k2 k3
          rw [k2] at hkk
          exact xsim_snd F2 hsim hg k1 k3 hc hs hlen hkk
        cases ins with
        | nop =>
          have ha : a = 2 := by
            unfold xsim at hsim
            dsimp only at hsim
            split at hsim
            · rfl
            · cases hsim
          exact main (fun h9 => absurd rfl h9) (hE ha).1 (fun _ => (hE ha).2)
        | if_icmp _ _ => cases hsim
        | ifCond _ _ => cases hsim
        | goto _ => cases hsim
        | tableswitch _ _ _ _ => cases hsim
        | ireturn => cases hsim
        | areturn => cases hsim
        | return_ => cases hsim
        | invokevirtual _ => cases hsim
        | invokespecial i =>
          have ha : a = 1000 := by
            unfold xsim at hsim
            dsimp only at hsim
            split at hsim
            · rfl
            · cases hsim
          exact main (fun _ => hE.1) hE.2.1 (hE.2.2.1 ha)
        | invokestatic i =>
          have ha : 1001 ≤ a := by
            unfold xsim at hsim
            dsimp only at hsim
            split at hsim
            · decide
            · decide
            · decide
            · cases hsim
          exact main (fun _ => hE.1) hE.2.1 (hE.2.2.1 ha)
        | _ => exact main (fun _ => hE.1) hE.2.1 hE.2.2
      | none =>
        rw [hsim] at h
        have call : ∀ (st' : List xV), st' = st → decode cc pc = .ok (ins, 3) → xpc rest 0 = pc + 3 → xcw own ins a → (((xmt a).1 ≤ st'.length ∧ st'.length ≤ (xmt a).1 + 8 ∧ xrecv S (xmt a).2.2.1 (st'.take (xmt a).1).reverse) ∧ C a (st'.take (xmt a).1).reverse S (fun r S' => xgo xft xNf xmt C K Qx rest 0 ls (match (xmt a).2.1 with
            | 0 => st'.drop (xmt a).1
            | _ => r :: st'.drop (xmt a).1) S')) → xWat p l e R s m args below meth c Qw b B dC dI aC nL S0 pc ls st S := by
          intro st' e1 k1 k2 k3 h9
          subst e1
          have hxm : xmw a := by
            cases ins <;> first | exact k3.1 | exact k3.elim
          obtain ⟨r, S', hgo, g1, g2, hM⟩ := hC _ _ _ _ hxm (by rw [List.length_reverse, List.length_take]; have := h9.1.1; omega) h9.2
          obtain ⟨hc, hs⟩ := hbd _ _ _ _ _ hgo
          have hkk := ih hrest 0 ls _ S' hlen hgo
          rw [k2] at hkk
          exact xcall_snd F2 k3 k1 h9.1 hM hRm g1 g2 hc hs hkk
        cases ins with
        | nop =>
          rcases a with _ | _ | a
          · exact h.elim
          · exact hK _ _ _ _ hlen h
          · exact h.elim
        | if_icmp co off =>
          obtain ⟨k1, k2, k3, k4⟩ := hE
          rcases st with _ | ⟨y | y, _ | ⟨x | x, st⟩⟩
          all_goals first | exact h.elim | skip
          have hno : ¬ xc co x y → xWat p l e R s m args below meth c Qw b B dC dI aC nL S0 (pc + 3) ls st S := fun z => by
            have := ih hrest 0 ls st S hlen (h.2.2 z)
            rw [k2] at this; exact this
          obtain ⟨tgt, ht, hyes⟩ : ∃ tgt : Nat, (pc : Int) + off = (tgt : Int) ∧ (xc co x y → xWat p l e R s m args below meth c Qw b B dC dI aC nL S0 tgt ls st S) := by
            cases a with
            | zero => exact ⟨_, k3 rfl, fun z => ih hrest b' ls st S hlen (h.2.1 z)⟩
            | succ n => exact ⟨b', k4 (by omega), fun z => hK _ _ _ _ hlen (h.2.1 z)⟩
          intro g1 g2 lsA H locs hl hR hS
          have wr_eq1 : Int32.ofInt x = Int32.ofInt y ↔ x = y := by rw [wr_eq, wr_id h.1.1, wr_id h.1.2]
          have wr_lt1 : Int32.ofInt x < Int32.ofInt y ↔ x < y := by rw [wr_lt, wr_id h.1.1, wr_id h.1.2]
          have wr_lt2 : Int32.ofInt y < Int32.ofInt x ↔ y < x := by rw [wr_lt, wr_id h.1.1, wr_id h.1.2]
          have wr_le1 : Int32.ofInt x ≤ Int32.ofInt y ↔ x ≤ y := by rw [wr_le, wr_id h.1.1, wr_id h.1.2]
          have wr_le2 : Int32.ofInt y ≤ Int32.ofInt x ↔ y ≤ x := by rw [wr_le, wr_id h.1.1, wr_id h.1.2]
          cases co
          · exact lv_icmp_eq hx hb k1 ht (fun z => hyes (wr_eq1.mp z) g1 g2 lsA H locs hl hR hS) (fun z => hno (fun q => z (wr_eq1.mpr q)) g1 g2 lsA H locs hl hR hS)
          · exact lv_icmp_ne hx hb k1 ht (fun z => hyes (fun q => z (wr_eq1.mpr q)) g1 g2 lsA H locs hl hR hS) (fun z => hno (fun q => q (wr_eq1.mp z)) g1 g2 lsA H locs hl hR hS)
          · exact lv_icmp_lt hx hb k1 ht (fun z => hyes (wr_lt1.mp z) g1 g2 lsA H locs hl hR hS) (fun z => hno (fun q => z (wr_lt1.mpr q)) g1 g2 lsA H locs hl hR hS)
          · exact lv_icmp_ge hx hb k1 ht (fun z => hyes (wr_le2.mp z) g1 g2 lsA H locs hl hR hS) (fun z => hno (fun q => z (wr_le2.mpr q)) g1 g2 lsA H locs hl hR hS)
          · exact lv_icmp_gt hx hb k1 ht (fun z => hyes (wr_lt2.mp z) g1 g2 lsA H locs hl hR hS) (fun z => hno (fun q => z (wr_lt2.mpr q)) g1 g2 lsA H locs hl hR hS)
          · exact lv_icmp_le hx hb k1 ht (fun z => hyes (wr_le1.mp z) g1 g2 lsA H locs hl hR hS) (fun z => hno (fun q => z (wr_le1.mpr q)) g1 g2 lsA H locs hl hR hS)
        | ifCond co off =>
          obtain ⟨k1, k2, k3, k4⟩ := hE
          rcases st with _ | ⟨x | x, st⟩
          all_goals first | exact h.elim | skip
          have hno : ¬ xc co x 0 → xWat p l e R s m args below meth c Qw b B dC dI aC nL S0 (pc + 3) ls st S := fun z => by
            have := ih hrest 0 ls st S hlen (h.2.2 z)
            rw [k2] at this; exact this
          obtain ⟨tgt, ht, hyes⟩ : ∃ tgt : Nat, (pc : Int) + off = (tgt : Int) ∧ (xc co x 0 → xWat p l e R s m args below meth c Qw b B dC dI aC nL S0 tgt ls st S) := by
            cases a with
            | zero => exact ⟨_, k3 rfl, fun z => ih hrest b' ls st S hlen (h.2.1 z)⟩
            | succ n => exact ⟨b', k4 (by omega), fun z => hK _ _ _ _ hlen (h.2.1 z)⟩
          intro g1 g2 lsA H locs hl hR hS
          have z0 : (Int32.ofInt 0) = 0 := rfl
          have e1 : Int32.ofInt x = 0 ↔ x = 0 := by rw [← z0, wr_eq, wr_0, wr_id h.1]
          have e2 : Int32.ofInt x < 0 ↔ x < 0 := by rw [← z0, wr_lt, wr_0, wr_id h.1]
          have e3 : Int32.ofInt x ≤ 0 ↔ x ≤ 0 := by rw [← z0, wr_le, wr_0, wr_id h.1]
          have e4 : 0 < Int32.ofInt x ↔ 0 < x := by rw [← z0, wr_lt, wr_0, wr_id h.1]
          have e5 : 0 ≤ Int32.ofInt x ↔ 0 ≤ x := by rw [← z0, wr_le, wr_0, wr_id h.1]
          cases co
          · exact lv_if_eq hx hb k1 ht (fun z => hyes (e1.mp z) g1 g2 lsA H locs hl hR hS) (fun z => hno (fun q => z (e1.mpr q)) g1 g2 lsA H locs hl hR hS)
          · exact lv_if_ne hx hb k1 ht (fun z => hyes (fun q => z (e1.mpr q)) g1 g2 lsA H locs hl hR hS) (fun z => hno (fun q => q (e1.mp z)) g1 g2 lsA H locs hl hR hS)
          · exact lv_if_lt hx hb k1 ht (fun z => hyes (e2.mp z) g1 g2 lsA H locs hl hR hS) (fun z => hno (fun q => z (e2.mpr q)) g1 g2 lsA H locs hl hR hS)
          · exact lv_if_ge hx hb k1 ht (fun z => hyes (e5.mp z) g1 g2 lsA H locs hl hR hS) (fun z => hno (fun q => z (e5.mpr q)) g1 g2 lsA H locs hl hR hS)
          · exact lv_if_gt hx hb k1 ht (fun z => hyes (e4.mp z) g1 g2 lsA H locs hl hR hS) (fun z => hno (fun q => z (e4.mpr q)) g1 g2 lsA H locs hl hR hS)
          · exact lv_if_le hx hb k1 ht (fun z => hyes (e3.mp z) g1 g2 lsA H locs hl hR hS) (fun z => hno (fun q => z (e3.mpr q)) g1 g2 lsA H locs hl hR hS)
        | goto off =>
          obtain ⟨k1, k3, k4⟩ := hE
          obtain ⟨tgt, ht, hyes⟩ : ∃ tgt : Nat, (pc : Int) + off = (tgt : Int) ∧ xWat p l e R s m args below meth c Qw b B dC dI aC nL S0 tgt ls st S := by
            cases a with
            | zero => exact ⟨_, k3 rfl, ih hrest b' ls st S hlen h⟩
            | succ n => exact ⟨b', k4 (by omega), hK _ _ _ _ hlen h⟩
          intro g1 g2 lsA H locs hl hR hS
          exact lv_goto hx hb k1 ht (hyes g1 g2 lsA H locs hl hR hS)
        | tableswitch dd lo hi offs =>
          obtain ⟨k1, k2, k3, k4⟩ := hE
          rcases st with _ | ⟨x | x, st⟩
          all_goals first | exact h.elim | skip
          intro g1 g2 lsA H locs hl hR hS
          obtain ⟨hrg, h⟩ := h
          have hwx : (Int32.ofInt x).toInt = x := wr_id hrg
          by_cases hc : x < lo ∨ hi < x
          · exact lv_tableOut hx hb k1 (by rw [hwx]; exact hc) (by omega) (hK _ _ _ _ hlen (h.1 hc) g1 g2 lsA H locs hl hR hS)
          · have hc1 : ¬ x < lo := fun q => hc (Or.inl q)
            have hc2 : ¬ hi < x := fun q => hc (Or.inr q)
            have hlt : (x - lo).toNat < offs.size := by omega
            have hget : offs[(x - lo).toNat]? = some offs[(x - lo).toNat] := Array.getElem?_eq_getElem hlt
            have hgd : offs.getD (x - lo).toNat 0 = offs[(x - lo).toNat] := by rw [Array.getD_eq_getD_getElem?, hget]; rfl
            have hn := h.2 hc
            rw [hgd] at hn
            have hpos := k3 offs[(x - lo).toNat] (by rw [Array.mem_toList_iff]; exact Array.getElem_mem hlt)
            exact lv_tableIn hx hb k1 (by rw [hwx]; exact hc1) (by rw [hwx]; exact hc2) (by rw [hwx]; exact hget) (by omega) (hK _ _ _ _ hlen hn g1 g2 lsA H locs hl hR hS)
        | ireturn =>
          rcases st with _ | ⟨x | x, _ | ⟨y, st⟩⟩
          all_goals first | exact h.elim | skip
          obtain ⟨k1, k2, k3, k4⟩ := hE
          subst k2
          have h9 : (a = 2 → x = 0 ∨ x = 1) ∧ Qx (.inl x) S := by
            rcases a with _ | _ | _ | a
            · exact ⟨fun q => by omega, h⟩
            · exact ⟨fun q => by omega, h⟩
            · exact ⟨fun _ => h.1, h.2⟩
            · exact ⟨fun q => by omega, h⟩
          exact hQi pc ls x S k1 ⟨k3, k4⟩ h9.1 h9.2
        | areturn =>
          rcases st with _ | ⟨x | x, _ | ⟨y, st⟩⟩
          all_goals first | exact h.elim | skip
          exact hQa pc ls x S hE.1 hE.2 h
        | return_ =>
          cases st with
          | nil => exact hQv pc ls S hE.1 hE.2 h
          | cons _ _ => exact h.elim
        | invokevirtual i => exact call st rfl hE.1 hE.2.1 hE.2.2 h
        | invokespecial i =>
          by_cases ha : a = 1000
          · subst ha
            exact absurd h.2 (hCn _ (by decide) _ _ _)
          · exact call st rfl hE.1 hE.2.1 (hE.2.2.2 ha) h
        | invokestatic i =>
          by_cases ha : 1001 ≤ a
          · exact absurd h.2 (hCn _ (by unfold xall; omega) _ _ _)
          · exact call st rfl hE.1 hE.2.1 (hE.2.2.2 ha) h
        | _ => exact h.elim
end STR
