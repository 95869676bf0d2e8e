section ROWS3
variable {p : Program} {l : Launch} {e : Env} {R : Room} {s : State} {m : MethodId} {args : Array Value} {below : List Frame} {meth : Method} {c : Code} {H : Heap} {locs : List Loc} {cells slots : Nat} {Q : State → Prop}
variable {cc : ByteArray} {pc : Nat} {lsA : Array Slot} {rest : List Value} {own : String} {b B : Nat} {dC : Nat → ClassId} {dI : Nat → Nat → Nat} {aC : Nat → ClassId} {S : xS}
theorem xnew_at {α : Type} (M : Nat → α) (n : Nat) (f : α) : xnew M n f n = f := by simp [xnew]
theorem xnew_ne {α : Type} (M : Nat → α) {n k : Nat} (f : α) (h : k ≠ n) : xnew M n f k = M k := by simp [xnew, h]
theorem x_end (hR : xRep b B dC dI aC s S H) : xad b B S.1 = H.size := by
  rw [xad_pos hR.1.2.1, hR.1.1]
theorem x_Sp {H1 : Heap} (hS : va_S (fun q => B ≤ q) s.heap H locs) (z : H1.size = H.size + 1) (o : ∀ q : Nat, q < H.size → H1[q]? = H[q]?) : va_S (fun q => B ≤ q) s.heap H1 locs :=
  ⟨Nat.le_trans hS.1 (by omega), fun q h1 h2 => by rw [o q (Nat.lt_of_lt_of_le h1 hS.1)]; exact hS.2.1 q h1 h2, hS.2.2⟩
def xatype : ArrayType → Nat
  | .int => 1
  | .boolean => 2
  | .short => 3
  | _ => 0
theorem xr_newa (hx : p.tables.exec = Jvm.exec) (hb : c.code = cc) (hts : ∀ w ∈ xG, w.before args s = true) (hK : xKK dC dI aC s) (hR : xRep b B dC dI aC s S H) (hS : va_S (fun q => B ≤ q) s.heap H locs) {at_ : ArrayType} {a : Nat} {n : Int} (ha : xatype at_ = a) (ha0 : 0 < a) (hw : Cond.arrayClass (newarray.typeOf at_) ∈ xG)
    (h0 : 0 ≤ n) (h1 : n ≤ 50000000) (hcells : cells + 1 ≤ R.cells) (hslots : slots + n.toNat ≤ R.slots) (hdg : decode cc pc = .ok (.newarray at_, 2))
    (kk : ∀ H1 : Heap, xRep b B dC dI aC s (S.1 + 1, S.2.1 + n.toNat, xnew S.2.2.1 S.1 (a, n.toNat), xnew S.2.2.2 S.1 (fun _ => 0)) H1 → va_S (fun q => B ≤ q) s.heap H1 locs → W p l e R s m args below meth c H1 locs (cells + 1) (slots + n.toNat) Q (F0 m (pc + 2) lsA (.ref (xad b B S.1) :: rest))) : W p l e R s m args below meth c H locs cells slots Q (F0 m pc lsA (.int (Int32.ofInt n) :: rest)) := by
  have hti : (Int32.ofInt n).toInt = n := Int32.toInt_ofInt_of_le (by omega) (by omega)
  have hcl : (Int32.ofInt n).toNatClampNeg = n.toNat := by show (Int32.ofInt n).toInt.toNat = _; rw [hti]
  have hneg : ¬ Int32.ofInt n < 0 := by
    rw [Int32.lt_iff_toInt_lt, hti, Int32.toInt_zero]; omega
  have hby : n.toNat * componentBytes (newarray.typeOf at_) ≤ 536870912 := by
    have : componentBytes (newarray.typeOf at_) ≤ 8 := by cases at_ <;> decide
    have h2 : n.toNat ≤ 50000000 := by omega
    calc n.toNat * componentBytes (newarray.typeOf at_) ≤ 50000000 * 8 := Nat.mul_le_mul h2 this
      _ ≤ 536870912 := by decide
  refine va_newaK hx hb (hts _ hw) rfl hdg rfl hneg hcl hby hcells hslots rfl fun H1 cA e1 z1 o1 hAr hNm => ?_
  have hcA : cA = aC a := by
    have key : ∀ (t : Nat) (ty : FieldType), (xtys aC)[t]? = some (aC (t + 1), ty) → (∀ C, ty ≠ .object C) → s.vm.findClass ("[" ++ ty.toString) = some (aC (t + 1)) := by
      intro t ty h hno
      have h2 := (hK.1.2 t _ h).2
      cases ty <;> first | exact h2 | exact absurd rfl (hno _)
    subst ha
    cases at_ <;> first | (exact absurd ha0 (by decide)) | skip
    · exact Option.some.inj (hNm.symm.trans (key 1 .boolean rfl (fun _ h => by cases h)))
    · exact Option.some.inj (hNm.symm.trans (key 2 .short rfl (fun _ h => by cases h)))
    · exact Option.some.inj (hNm.symm.trans (key 0 .int rfl (fun _ h => by cases h)))
  have ha3 : 1 ≤ a ∧ a ≤ 3 := by
    subst ha
    cases at_ <;> first | (exact absurd ha0 (by decide)) | exact ⟨by decide, by decide⟩
  have hdv : defaultValue (newarray.typeOf at_) = .int 0 := by
    subst ha
    cases at_ <;> first | (exact absurd ha0 (by decide)) | rfl
  rw [← x_end hR]
  refine kk H1 (hR.push rfl (fun j hj => xnew_ne _ _ hj) (fun j hj => xnew_ne _ _ hj) z1 o1 ⟨fun _ => ?_, fun g => ?_, fun g => ?_⟩) (x_Sp hS z1 o1)
  · show H1[xad b B S.1]? = some (arrV (aC (xnew S.2.2.1 S.1 (a, n.toNat) S.1).1) (xnew S.2.2.1 S.1 (a, n.toNat) S.1).2 (fun i => .int (Int32.ofInt (xnew S.2.2.2 S.1 (fun _ => 0) S.1 (i : Int)))))
    rw [xnew_at, xnew_at, x_end hR, e1, hcA, hdv]
    rfl
  · change (xnew S.2.2.1 S.1 (a, n.toNat) S.1).1 = 4 at g
    rw [xnew_at] at g
    change a = 4 at g; omega
  · change 10 ≤ (xnew S.2.2.1 S.1 (a, n.toNat) S.1).1 at g
    rw [xnew_at] at g
    change 10 ≤ a at g; omega
theorem xr_new (hx : p.tables.exec = Jvm.exec) (hb : c.code = cc) (hts : ∀ w ∈ xG, w.before args s = true) (hown : s.vm.findClass own = some m.cls) (hK : xKK dC dI aC s) (hR : xRep b B dC dI aC s S H) (hS : va_S (fun q => B ≤ q) s.heap H locs) {a c0 index : Nat} (ha : a = 30 + c0) (hc0 : c0 < 11)
    (w1 : Cond.classLink own index (xRX c0) ∈ xG) (w2 : Cond.instantiable (xRX c0) (xNf c0) ∈ xG) (w3 : Cond.initialized (xRX c0) ∈ xG) (hcells : cells + 1 ≤ R.cells) (hslots : slots + xNf a ≤ R.slots) (hdg : decode cc pc = .ok (.new index, 3))
    (kk : ∀ H1 : Heap, xRep b B dC dI aC s (S.1 + 1, S.2.1 + xNf a, xnew S.2.2.1 S.1 (10 + a, 0), xnew S.2.2.2 S.1 (xfresh xft a)) H1 → va_S (fun q => B ≤ q) s.heap H1 locs → W p l e R s m args below meth c H1 locs (cells + 1) (slots + xNf a) Q (F0 m (pc + 3) lsA (.ref (xad b B S.1) :: rest))) : W p l e R s m args below meth c H locs cells slots Q (F0 m pc lsA rest) := by
  have hmod : a % 30 = c0 := by omega
  have hN : xNf a = xNf c0 := by rw [xNf_mod a, hmod]
  rw [hN] at hslots
  have hKn := hK.1.1 c0 _ (x_cl _ hc0)
  refine W.newcK hx hb hown (hts _ w1) (hts _ w2) (hts _ w3) rfl hdg hcells hslots hKn.2.1 rfl fun H1 kC hkC e1 z1 o1 => ?_
  have hborn := u_born (xTy c0) hts (x_ws _ hc0) hKn hkC e1 (x_ty _ hc0)
  rw [← x_end hR]
  rw [hN] at kk
  refine kk H1 (hR.push rfl (fun j hj => xnew_ne _ _ hj) (fun j hj => xnew_ne _ _ hj) z1 o1 ⟨fun g => ?_, fun g => ?_, fun _ => ?_⟩) (x_Sp hS z1 o1)
  · change 1 ≤ (xnew S.2.2.1 S.1 (10 + a, 0) S.1).1 ∧ (xnew S.2.2.1 S.1 (10 + a, 0) S.1).1 ≤ 3 at g
    rw [xnew_at] at g
    change 1 ≤ 10 + a ∧ 10 + a ≤ 3 at g; omega
  · change (xnew S.2.2.1 S.1 (10 + a, 0) S.1).1 = 4 at g
    rw [xnew_at] at g
    change 10 + a = 4 at g; omega
  · show ((xnew S.2.2.1 S.1 (10 + a, 0) S.1).1 - 10) % 30 < 11 ∧ t_OB (xad b B S.1) (dC (((xnew S.2.2.1 S.1 (10 + a, 0) S.1).1 - 10) % 30)) (xNf ((xnew S.2.2.1 S.1 (10 + a, 0) S.1).1 - 10)) (dI (((xnew S.2.2.1 S.1 (10 + a, 0) S.1).1 - 10) % 30)) H1 (fun j => xcv (xad b B) (xget xft ((xnew S.2.2.1 S.1 (10 + a, 0) S.1).1 - 10) j S.1 (xnew S.2.2.2 S.1 (xfresh xft a))))
    rw [xnew_at]
    show (10 + a - 10) % 30 < 11 ∧ t_OB (xad b B S.1) (dC ((10 + a - 10) % 30)) (xNf (10 + a - 10)) (dI ((10 + a - 10) % 30)) H1 (fun j => xcv (xad b B) (xget xft (10 + a - 10) j S.1 (xnew S.2.2.2 S.1 (xfresh xft a))))
    rw [Nat.add_sub_cancel_left, hmod, hN, x_end hR]
    refine ⟨hc0, hborn.to (fun j hj => ?_)⟩
    have ht := x_tok c0 hc0 j hj
    have hft : xft a j = (bif Nat.beq (xft0 c0 j).1 0 then (0, 0) else bif Nat.beq (xft0 c0 j).1 4 then (4, 0) else (3, 0)) := by
      unfold xft
      have e : Nat.blt a 30 = false := by
        rw [Bool.eq_false_iff]; intro h; rw [Nat.blt_eq] at h; omega
      have e2 : a - 30 = c0 := by omega
      simp only [e, cond_false, e2]
    unfold xget
    rw [xnew_at]
    unfold xfresh
    rw [show ((j : Int).toNat) = j from rfl, hft]
    generalize (xft0 c0 j).1 = t at ht ⊢
    generalize xTy c0 j = ty at ht ⊢
    cases ty <;> first
      | (exfalso; revert ht; unfold xtok; split <;> simp_all; done)
      | (have h4 : t = 4 := by (revert ht; unfold xtok; split <;> simp_all)
         subst h4; rfl)
      | (have h0 : t = 0 := by (revert ht; unfold xtok; split <;> simp_all)
         subst h0; rfl)
      | (have h0 : t = 1 ∨ t = 2 ∨ t = 3 := by (revert ht; unfold xtok; split <;> simp_all)
         rcases h0 with rfl | rfl | rfl <;> rfl)
end ROWS3
