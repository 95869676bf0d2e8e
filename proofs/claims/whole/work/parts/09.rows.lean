/-! ===== rows of the small machine over the machine: fields, arrays, new cells ===== -/
def xnestA : Cond := .methodLinkNest "MatchForge$Builder" 11 yX1_init "MatchForge"
def xnestB : Cond := .methodLinkNest "MatchForge$Match" 30 yX6_init "MatchForge"
def xtys (aC : Nat → ClassId) : List (ClassId × FieldType) := [(aC 1, .int), (aC 2, .boolean), (aC 3, .short), (aC 4, .object "MatchForge$Match")]
/-- what the tables say of the classes, as the cells use it -/
def xKK (dC : Nat → ClassId) (dI : Nat → Nat → Nat) (aC : Nat → ClassId) (U : State) : Prop := va_K (dC, dI) vwCl (xtys aC) U ∧ va_Nw xnestA U ∧ va_Nw xnestB U ∧ va_AO "MatchForge$Match" U
theorem xKK.warm {dC : Nat → ClassId} {dI : Nat → Nat → Nat} {aC : Nat → ClassId} {u U : State} (hW : u.WarmedH U.vm) (h : xKK dC dI aC u) : xKK dC dI aC U :=
  ⟨h.1.moved hW.alike, h.2.1.warmM hW, h.2.2.1.warmM hW, h.2.2.2.moved hW.alike⟩
theorem xKK.same {dC : Nat → ClassId} {dI : Nat → Nat → Nat} {aC : Nat → ClassId} {u U : State} (hv : u.vm = U.vm) (h : xKK dC dI aC u) : xKK dC dI aC U :=
  ⟨h.1.moved (by rw [hv]; exact Vm.Alike.refl _), h.2.1.same rfl hv, h.2.2.1.same rfl hv, h.2.2.2.moved (by rw [hv]; exact Vm.Alike.refl _)⟩
theorem xNf_mod (a : Nat) : xNf a = xNf (a % 30) := by unfold xNf; rw [Nat.mod_mod]
theorem xref_enc (r : Option Nat) : xref (xenc r) = r := by
  cases r with
  | none => rfl
  | some k =>
    have h : ¬ ((k : Int) < 0) := by omega
    simp [xref, xenc, h]
theorem xref_nat (k : Nat) : xref (k : Int) = some k := xref_enc (some k)
section ROWS
variable {p : Program} {l : Launch} {e : Env} {R : Room} {s : State} {m : MethodId} {args : Array Value} {below : List Frame} {meth : Method} {c : Code} {H : Heap} {locs : List Loc} {cells slots : Nat} {Q : State → Prop}
variable {cc : ByteArray} {pc : Nat} {lsA : Array Slot} {rest : List Value} {own : String} {b B : Nat} {dC : Nat → ClassId} {dI : Nat → Nat → Nat} {aC : Nat → ClassId} {S : xS}
theorem x_obj (hR : xRep b B dC dI aC s S H) {k a : Nat} (hk : 0 < k) (ho : xob S k a) : a % 30 < 11 ∧ t_OB (xad b B k) (dC (a % 30)) (xNf a) (dI (a % 30)) H (fun j => xcv (xad b B) (xget xft a j k S.2.2.2)) := by
  have h := (hR.2.2 k hk ho.1).2.2 (by rw [ho.2]; omega)
  rw [ho.2, Nat.add_sub_cancel_left] at h
  exact h
theorem x_arr (hR : xRep b B dC dI aC s S H) {k t : Nat} (hk : 0 < k) (hl : k < S.1) (ht : (S.2.2.1 k).1 = t) (h1 : 1 ≤ t) (h3 : t ≤ 3) : H[xad b B k]? = some (arrV (aC t) (S.2.2.1 k).2 (fun i => .int (Int32.ofInt (S.2.2.2 k (i : Int))))) := by
  have h := (hR.2.2 k hk hl).1 (by rw [ht]; exact ⟨h1, h3⟩)
  rw [ht] at h
  exact h
theorem x_arrq (hR : xRep b B dC dI aC s S H) {k : Nat} (hk : 0 < k) (hl : k < S.1) (ht : (S.2.2.1 k).1 = 4) : H[xad b B k]? = some (arrV (aC 4) (S.2.2.1 k).2 (fun i => va_rf ((xref (S.2.2.2 k (i : Int))).map (xad b B)))) := (hR.2.2 k hk hl).2.1 ht
theorem xr_get (hx : p.tables.exec = Jvm.exec) (hb : c.code = cc) (hts : ∀ w ∈ xG, w.before args s = true) (hown : s.vm.findClass own = some m.cls) (hK : xKK dC dI aC s) (hR : xRep b B dC dI aC s S H) {k a j index : Nat} (hk : 0 < k) (ho : xob S k a) (hj : j < xNf a)
    (hlink : Cond.fieldLink own index (xTX (a % 30) j).1 (xTX (a % 30) j).2.1 (xTX (a % 30) j).2.2.1 ∈ xG) (hdg : decode cc pc = .ok (.getfield index, 3))
    (kk : W p l e R s m args below meth c H locs cells slots Q (F0 m (pc + 3) lsA (xcv (xad b B) (xget xft a j k S.2.2.2) :: rest))) : W p l e R s m args below meth c H locs cells slots Q (F0 m pc lsA (.ref (xad b B k) :: rest)) := by
  obtain ⟨hc, cell, q1, q2, q3, q4⟩ := x_obj hR hk ho
  obtain ⟨hS, hfc, kC, hkC, hkind⟩ := hK.1.1 (a % 30) _ (x_cl _ hc)
  rw [xNf_mod] at hj q4
  obtain ⟨cf, kf, fi, f, hi, hsl⟩ := hS j hj
  refine W.getf hx hb hown (hts _ hlink) hi (u_facts hfc hkC (u_lays hts (x_ws _ hc) hj) hi).1 q1 (by rw [q3]; exact fun h => by cases h) (v := xcv (xad b B) (xget xft a j k S.2.2.2)) ?_ rfl rfl hdg kk
  rw [hsl]
  exact q4 j hj
theorem x_fit {a j : Nat} (hc : a % 30 < 11) (hj : j < xNf a) (ha : a < 60) {v : xV} {g : Option Prop} {x : Int} (hp : xput xft a j S v = some (g, x)) (hg : ∀ P, g = some P → P) (ad : Nat → Nat) : narrow (xTy (a % 30) j) (xcv ad v) = xcv ad v ∧ fits (xTy (a % 30) j) (xcv ad v) = true := by
  have ht := x_tok (a % 30) hc j (by rw [← xNf_mod]; exact hj)
  have hft : (xft a j).1 = 0 ∧ (xft0 (a % 30) j).1 = 0 ∨ (xft a j).1 = 4 ∧ (xft0 (a % 30) j).1 = 4 ∨ ((xft a j).1 ≠ 0 ∧ (xft a j).1 ≠ 4) ∧ ((xft0 (a % 30) j).1 ≠ 0 ∧ (xft0 (a % 30) j).1 ≠ 4) := by
    unfold xft
    by_cases h30 : a < 30
    · have e : Nat.blt a 30 = true := by rw [Nat.blt_eq]; exact h30
      rw [Nat.mod_eq_of_lt h30]
      simp only [e, cond_true]
      omega
    · have e : Nat.blt a 30 = false := by
        rw [Bool.eq_false_iff]; intro h; rw [Nat.blt_eq] at h; exact h30 h
      have e2 : a % 30 = a - 30 := by omega
      rw [e2]
      simp only [e, cond_false]
      by_cases h0 : (xft0 (a - 30) j).1 = 0
      · simp [h0]
      · by_cases h4 : (xft0 (a - 30) j).1 = 4
        · simp [h4]; rfl
        · have e0 : Nat.beq (xft0 (a - 30) j).1 0 = false := by
            rw [Bool.eq_false_iff]; intro h; exact h0 (Nat.eq_of_beq_eq_true h)
          have e4 : Nat.beq (xft0 (a - 30) j).1 4 = false := by
            rw [Bool.eq_false_iff]; intro h; exact h4 (Nat.eq_of_beq_eq_true h)
          simp only [e0, e4, cond_false]
          omega
  generalize hty : xTy (a % 30) j = ty at ht ⊢
  generalize (xft0 (a % 30) j).1 = t0 at ht hft
  unfold xput at hp
  generalize (xft a j).1 = t1 at hp hft
  rcases hft with ⟨e1, e2⟩ | ⟨e1, e2⟩ | ⟨e1, e2⟩
  · subst e1; subst e2
    cases ty <;> first | (simp [xtok] at ht; done) | skip
    rcases v with y | r
    · exact ⟨rfl, rfl⟩
    · cases hp
  · subst e1; subst e2
    cases ty <;> first | (simp [xtok] at ht; done) | skip
    rcases v with y | r
    · cases hp
      rcases hg _ rfl with rfl | rfl
      · exact ⟨rfl, rfl⟩
      · exact ⟨rfl, rfl⟩
    · cases hp
  · rcases v with y | r
    · split at hp
      · rename_i h; exact absurd rfl e1.1
      · rename_i h; exact absurd rfl e1.2
      all_goals (rename_i h; first | (cases h; done) | cases hp)
    · cases ty <;> first | (exfalso; revert ht; unfold xtok; split <;> simp_all; done) | skip
      all_goals (cases r <;> exact ⟨rfl, rfl⟩)
end ROWS
