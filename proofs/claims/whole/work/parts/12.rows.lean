section ROWS4
variable {p : Program} {l : Launch} {e : Env} {R : Room} {s : State} {m : MethodId} {args : Array Value} {below : List Frame} {meth : Method} {c : Code} {H : Heap} {locs : List Loc} {cells slots : Nat} {Q : State → Prop}
variable {cc : ByteArray} {pc : Nat} {lsA : Array Slot} {rest : List Value} {own : String} {b B : Nat} {dC : Nat → ClassId} {dI : Nat → Nat → Nat} {aC : Nat → ClassId} {S : xS}
theorem xr_anew (hx : p.tables.exec = Jvm.exec) (hb : c.code = cc) (hts : ∀ w ∈ xG, w.before args s = true) (hown : s.vm.findClass own = some m.cls) (hK : xKK dC dI aC s) (hR : xRep b B dC dI aC s S H) (hS : va_S (fun q => B ≤ q) s.heap H locs) {n : Int} {index : Nat} (hw : Cond.classLink own index "MatchForge$Match" ∈ xG)
    (h0 : 0 ≤ n) (h1 : n ≤ 50000000) (hcells : cells + 1 ≤ R.cells) (hslots : slots + n.toNat ≤ R.slots) (hdg : decode cc pc = .ok (.anewarray index, 3))
    (kk : ∀ H1 : Heap, xRep b B dC dI aC s (S.1 + 1, S.2.1 + n.toNat, xnew S.2.2.1 S.1 (4, n.toNat), xnew S.2.2.2 S.1 (fun _ => -1)) H1 → va_S (fun q => B ≤ q) s.heap H1 locs → W p l e R s m args below meth c H1 locs (cells + 1) (slots + n.toNat) Q (F0 m (pc + 3) lsA (.ref (xad b B S.1) :: rest))) : W p l e R s m args below meth c H locs cells slots Q (F0 m pc lsA (.int (Int32.ofInt n) :: rest)) := by
  have hti : (Int32.ofInt n).toInt = n := Int32.toInt_ofInt_of_le (by omega) (by omega)
  have hcl : (Int32.ofInt n).toNatClampNeg = n.toNat := by show (Int32.ofInt n).toInt.toNat = _; rw [hti]
  have hneg : ¬ Int32.ofInt n < 0 := by
    rw [Int32.lt_iff_toInt_lt, hti, Int32.toInt_zero]; omega
  refine W.anew hx hb hown (hts _ hw) (hK.2.2.2.use) rfl hdg rfl hneg (by rw [hcl]; omega) hcells (by rw [hcl]; exact hslots) fun cA kA comp g1 g2 g3 g4 => ?_
  obtain ⟨kA', comp', k1, k2, k3, k4⟩ := (hK.1.2 3 (aC 4, .object "MatchForge$Match") rfl).2
  have hcA : cA = aC 4 := Option.some.inj (g1.symm.trans k4)
  rw [hcl]
  have z1 : (H.push { cls := cA, slots := Array.replicate n.toNat .null, vm := .none }).size = H.size + 1 := by simp
  have o1 : ∀ q : Nat, q < H.size → (H.push { cls := cA, slots := Array.replicate n.toNat .null, vm := .none })[q]? = H[q]? := fun q hq => by rw [Array.getElem?_push, if_neg (Nat.ne_of_lt hq)]
  have e1 : (H.push { cls := cA, slots := Array.replicate n.toNat .null, vm := .none })[H.size]? = some (arrV cA n.toNat (fun _ => .null)) := by rw [← arrV_new]; simp
  generalize H.push { cls := cA, slots := Array.replicate n.toNat .null, vm := .none } = H1 at z1 o1 e1 ⊢
  rw [← x_end hR]
  refine kk H1 (hR.push rfl (fun j hj => xnew_ne _ _ hj) (fun j hj => xnew_ne _ _ hj) z1 o1 ⟨fun g => ?_, fun _ => ?_, fun g => ?_⟩) (x_Sp hS z1 o1)
  · change 1 ≤ (xnew S.2.2.1 S.1 (4, n.toNat) S.1).1 ∧ (xnew S.2.2.1 S.1 (4, n.toNat) S.1).1 ≤ 3 at g
    rw [xnew_at] at g
    exact absurd g.2 (show ¬ 4 ≤ 3 by decide)
  · show H1[xad b B S.1]? = some (arrV (aC 4) (xnew S.2.2.1 S.1 (4, n.toNat) S.1).2 (fun i => va_rf ((xref (xnew S.2.2.2 S.1 (fun _ => -1) S.1 (i : Int))).map (xad b B))))
    rw [xnew_at, xnew_at, x_end hR, e1, hcA]
    rfl
  · change 10 ≤ (xnew S.2.2.1 S.1 (4, n.toNat) S.1).1 at g
    rw [xnew_at] at g
    exact absurd g (show ¬ 10 ≤ 4 by decide)
theorem xr_aast (hx : p.tables.exec = Jvm.exec) (hb : c.code = cc) (hK : xKK dC dI aC s) (hR : xRep b B dC dI aC s S H) (hS : va_S (fun q => B ≤ q) s.heap H locs) {k v : Nat} {i : Int} (hk : 0 < k) (h : xin S k 4 i) (hv : 0 < v) (hvo : xob S v 3) (hdg : decode cc pc = .ok (.aastore, 1))
    (kk : ∀ (H1 : Heap) (locs1 : List Loc), xRep b B dC dI aC s (S.1, S.2.1, S.2.2.1, xup S.2.2.2 k i (v : Int)) H1 → va_S (fun q => B ≤ q) s.heap H1 locs1 → W p l e R s m args below meth c H1 locs1 cells slots Q (F0 m (pc + 1) lsA rest)) : W p l e R s m args below meth c H locs cells slots Q (F0 m pc lsA (.ref (xad b B v) :: .int (Int32.ofInt i) :: .ref (xad b B k) :: rest)) := by
  have hi := xin_of h
  have hlt : (wr i).toNat < (S.2.2.1 k).2 := by rw [xin_wr h]; have := h.2.2; omega
  have h0 : ¬ Int32.ofInt i < 0 := fun q => hi (Or.inl q)
  obtain ⟨-, cellV, g1, g2, g3, -⟩ := x_obj hR hv hvo
  have hcls := (hK.1.1 3 _ (x_cl 3 (by decide))).2
  obtain ⟨kA, comp, k1, k2, k3, -⟩ := (hK.1.2 3 (aC 4, .object "MatchForge$Match") rfl).2
  have hcomp : comp = dC 3 := Option.some.inj (k3.symm.trans hcls.1)
  subst hcomp
  obtain ⟨kC, hkC, -⟩ := id hcls.2
  refine W.aast hx hb (x_arrq hR hk h.1 h.2.1) (fun q h => by cases h) (fun h => by cases h) k1 k2 rfl hkC ⟨h0, by rw [arrV_size, wr_clamp]; exact hlt⟩ g1 (fun q h => by rw [g3] at h; cases h) (by rw [g2]; exact hkC) (by rw [g2]; exact va_assign hcls) rfl rfl hdg fun H1 e1 e2 e3 => ?_
  refine kk H1 _ (hR.set hk rfl (fun _ _ => rfl) (fun j hj => xup_k _ _ _ hj) e2 e3 (fun hl => ?_)) (x_S (A := fun _ => True) hS hk e2 e3)
  have hkd : (S.2.2.1 k).1 = 4 := h.2.1
  refine ⟨fun g => ?_, fun _ => ?_, fun g => ?_⟩
  · change 1 ≤ (S.2.2.1 k).1 ∧ (S.2.2.1 k).1 ≤ 3 at g; omega
  · show H1[xad b B k]? = some (arrV (aC 4) (S.2.2.1 k).2 (fun q => va_rf ((xref (xup S.2.2.2 k i (v : Int) k (q : Int))).map (xad b B))))
    rw [e1, arrV_store, wr_clamp]
    congr 2
    funext q
    by_cases hq : q = (wr i).toNat
    · subst hq
      have ee : (((wr i).toNat : Nat) : Int) = i := by rw [xin_wr h]; have := h.2.2.1; omega
      simp only [updV, if_true]
      rw [ee, xup_same, xref_nat]
      rfl
    · simp only [updV, hq, if_false]
      rw [xup_i S.2.2.2 k (v : Int) (show (q : Int) ≠ i by rw [xin_wr h] at hq; have := h.2.2.1; omega)]
  · change 10 ≤ (S.2.2.1 k).1 at g; omega
theorem xr_copy (hx : p.tables.exec = Jvm.exec) (hb : c.code = cc) (hml : c.maxLocals = lsA.size) (hts : ∀ w ∈ xG, w.before args s = true) (hown : s.vm.findClass own = some m.cls) (hK : xKK dC dI aC s) (hR : xRep b B dC dI aC s S H) (hS : va_S (fun q => B ≤ q) s.heap H locs) {f d index : Nat} {sp dp n : Int}
    (w1 : Cond.methodLink own index arraycopyName ∈ xG) (w2 : Cond.native arraycopyName ∈ xG) (w3 : Cond.static arraycopyName ∈ xG) (w4 : Cond.initialized "java/lang/System" ∈ xG)
    (hf : 0 < f ∧ f < S.1 ∧ (S.2.2.1 f).1 = 1) (hd : 0 < d ∧ d < S.1 ∧ (S.2.2.1 d).1 = 1) (hne : ¬ f = d) (hr : 0 ≤ sp ∧ 0 ≤ dp ∧ 0 ≤ n ∧ sp + n ≤ ((S.2.2.1 f).2 : Int) ∧ dp + n ≤ ((S.2.2.1 d).2 : Int)) (hbig : (S.2.2.1 f).2 ≤ 50000000 ∧ (S.2.2.1 d).2 ≤ 50000000)
    (hframes : 1 ≤ R.frames) (hlocals : (rest.map fun v => v.category).sum + 18 ≤ R.locals) (hdg : decode cc pc = .ok (.invokestatic index, 3))
    (kk : ∀ (H1 : Heap) (locs1 : List Loc), xRep b B dC dI aC s (S.1, S.2.1, S.2.2.1, xcpy S.2.2.2 f sp d dp n) H1 → va_S (fun q => B ≤ q) s.heap H1 locs1 → W p l e R s m args below meth c H1 locs1 cells slots Q (F0 m (pc + 3) lsA rest)) : W p l e R s m args below meth c H locs cells slots Q (F0 m pc lsA (.int (Int32.ofInt n) :: .int (Int32.ofInt dp) :: .ref (xad b B d) :: .int (Int32.ofInt sp) :: .ref (xad b B f) :: rest)) := by
  have hti : ∀ x : Int, 0 ≤ x → x ≤ 50000000 → (Int32.ofInt x).toInt = x := fun x h1 h2 => Int32.toInt_ofInt_of_le (by omega) (by omega)
  have hcl : ∀ x : Int, 0 ≤ x → x ≤ 50000000 → (Int32.ofInt x).toNatClampNeg = x.toNat := fun x h1 h2 => by show (Int32.ofInt x).toInt.toNat = _; rw [hti x h1 h2]
  have hneg : ∀ x : Int, 0 ≤ x → x ≤ 50000000 → ¬ Int32.ofInt x < 0 := fun x h1 h2 => by
    rw [Int32.lt_iff_toInt_lt, hti x h1 h2, Int32.toInt_zero]; omega
  obtain ⟨r1, r2, r3, r4, r5⟩ := hr
  have hA := x_arr hR hf.1 hf.2.1 hf.2.2 (by omega) (by omega)
  have hD := x_arr hR hd.1 hd.2.1 hd.2.2 (by omega) (by omega)
  have hb0 := hR.1.2.2
  have hcsp := hcl sp r1 (by omega)
  have hcdp := hcl dp r2 (by omega)
  have hcn := hcl n r3 (by omega)
  intro T hT X
  obtain ⟨-, k0, hk0, cm0, hkk0⟩ := x_ao hK (t := 0) rfl (S.2.2.1 f).2 (fun i => .int (Int32.ofInt (S.2.2.2 f (i : Int))))
  obtain ⟨-, k1, hk1, cm1, hkk1⟩ := x_ao hK (t := 0) rfl (S.2.2.1 d).2 (fun i => .int (Int32.ofInt (S.2.2.2 d (i : Int))))
  obtain ⟨vm', X', step⟩ := X.arraycopy hx hown (hts _ w1) (hts _ w2) (hts _ w3) (hts _ w4) (src := xad b B f) (dst := xad b B d) (srcPos := Int32.ofInt sp) (destPos := Int32.ofInt dp) (n := Int32.ofInt n) (by rw [hT]; exact hA) (by rw [hT]; exact hD)
    (fun _ h => by cases h) (fun _ h => by cases h) (fun h => by cases h) (fun h => by cases h) hk0 hk1 hkk0 hkk1 (by simp [refKind]) (hneg sp r1 (by omega)) (hneg dp r2 (by omega)) (hneg n r3 (by omega))
    (by rw [hti sp r1 (by omega), hti n r3 (by omega), arrV_size]; omega)
    (by rw [hti dp r2 (by omega), hti n r3 (by omega), arrV_size]; omega)
    (fun vm₁ _ i hi => by
      rw [hcsp]
      rw [hcn] at hi
      have ee : (arrV (aC 1) (S.2.2.1 f).2 (fun i => .int (Int32.ofInt (S.2.2.2 f (i : Int))))).slots.getD (sp.toNat + i) .null = .int (Int32.ofInt (S.2.2.2 f ((sp.toNat + i : Nat) : Int))) := by
        rw [Array.getD_eq_getD_getElem?, arrV_read _ _ (by omega)]
        rfl
      refine ⟨?_, ?_⟩
      · rw [ee]
        rfl
      · rw [ee]
        exact trivial)
    (g := F0 m pc lsA (.int (Int32.ofInt n) :: .int (Int32.ofInt dp) :: .ref (xad b B d) :: .int (Int32.ofInt sp) :: .ref (xad b B f) :: rest)) rfl (by rw [hml]) (rest := rest) rfl (by rw [hb]; exact hdg) hframes (by
      show 2 * 0 + _ + (nativeFrameWords "java/lang/System" "arraycopy" 5 + 11) ≤ _
      have e5 : nativeFrameWords "java/lang/System" "arraycopy" 5 = 7 := by decide
      rw [e5]; omega)
  have e1 : copied (arrV (aC 1) (S.2.2.1 f).2 (fun i => .int (Int32.ofInt (S.2.2.2 f (i : Int))))) (arrV (aC 1) (S.2.2.1 d).2 (fun i => .int (Int32.ofInt (S.2.2.2 d (i : Int))))) (Int32.ofInt sp) (Int32.ofInt dp) (Int32.ofInt n) = arrV (aC 1) (S.2.2.1 d).2 (fun q => .int (Int32.ofInt (xcpy S.2.2.2 f sp d dp n d (q : Int)))) := by
    have h9 := va_copied (fun z : Int32 => Value.int z) (aC 1) (aC 1) (n0 := (S.2.2.1 f).2) (n1 := (S.2.2.1 d).2) (fun i : Nat => Int32.ofInt (S.2.2.2 f (i : Int))) (fun i : Nat => Int32.ofInt (S.2.2.2 d (i : Int))) (sp := (Int32.ofInt sp).toNatClampNeg) (dp := (Int32.ofInt dp).toNatClampNeg) (n := (Int32.ofInt n).toNatClampNeg) (by rw [hcsp, hcn]; omega)
    refine h9.trans ?_
    congr 1
    funext q
    rw [hcsp, hcdp, hcn]
    unfold va_cpy xcpy
    by_cases hq : dp.toNat ≤ q ∧ q < dp.toNat + n.toNat
    · have e7 : ((sp.toNat + (q - dp.toNat) : Nat) : Int) = sp + ((q : Int) - dp) := by omega
      rw [if_pos hq, if_pos ⟨rfl, by omega, by omega⟩]
      show Value.int (Int32.ofInt (S.2.2.2 f ((sp.toNat + (q - dp.toNat) : Nat) : Int))) = _
      rw [e7]
    · rw [if_neg hq, if_neg (fun h => hq (by omega))]
  rw [e1] at X' step
  have hl : xad b B d < H.size := (Array.getElem?_eq_some_iff.mp hD).1
  have hheap : ((T.setVm vm').setCell (xad b B d) (arrV (aC 1) (S.2.2.1 d).2 (fun q => .int (Int32.ofInt (xcpy S.2.2.2 f sp d dp n d (q : Int)))))).heap = H.setIfInBounds (xad b B d) (arrV (aC 1) (S.2.2.1 d).2 (fun q => .int (Int32.ofInt (xcpy S.2.2.2 f sp d dp n d (q : Int))))) := by rw [← hT]; rfl
  have oq : ∀ q : Nat, q ≠ xad b B d → (H.setIfInBounds (xad b B d) (arrV (aC 1) (S.2.2.1 d).2 (fun q => .int (Int32.ofInt (xcpy S.2.2.2 f sp d dp n d (q : Int))))))[q]? = H[q]? := fun q hq => by simp [Array.getElem?_setIfInBounds, Ne.symm hq]
  have hz : (H.setIfInBounds (xad b B d) (arrV (aC 1) (S.2.2.1 d).2 (fun q => .int (Int32.ofInt (xcpy S.2.2.2 f sp d dp n d (q : Int)))))).size = H.size := by simp
  have hat : (H.setIfInBounds (xad b B d) (arrV (aC 1) (S.2.2.1 d).2 (fun q => .int (Int32.ofInt (xcpy S.2.2.2 f sp d dp n d (q : Int))))))[xad b B d]? = some (arrV (aC 1) (S.2.2.1 d).2 (fun q => .int (Int32.ofInt (xcpy S.2.2.2 f sp d dp n d (q : Int))))) := by simp [Array.getElem?_setIfInBounds, hl]
  have hAd : B ≤ xad b B d := by rw [xad_pos hd.1]; omega
  obtain ⟨t, a1, b1⟩ := kk _ _ (hR.set (S' := (S.1, S.2.1, S.2.2.1, xcpy S.2.2.2 f sp d dp n)) hd.1 rfl (fun _ _ => rfl) (fun j hj => by funext i; simp [xcpy, hj]) hz oq (fun hll => by
      have hkd : (S.2.2.1 d).1 = 1 := hd.2.2
      refine ⟨fun _ => ?_, fun g => ?_, fun g => ?_⟩
      · show _ = some (arrV (aC (S.2.2.1 d).1) (S.2.2.1 d).2 (fun q => .int (Int32.ofInt (xcpy S.2.2.2 f sp d dp n d (q : Int)))))
        rw [hkd]; exact hat
      · change (S.2.2.1 d).1 = 4 at g; omega
      · change 10 ≤ (S.2.2.1 d).1 at g; omega)) ⟨by rw [hz]; exact hS.1, fun q g1 g2 => by
      rw [oq q (fun e => g2 (by show B ≤ q; rw [e]; exact hAd))]
      exact hS.2.1 q g1 g2, fun q hq => by
      rcases List.mem_append.mp hq with h | h
      · exact hS.2.2 q h
      · obtain ⟨z, -, hz⟩ := List.mem_map.mp h
        rw [← hz]
        exact hAd⟩ _ hheap X'
  exact ⟨t, step t a1, b1⟩
end ROWS4
