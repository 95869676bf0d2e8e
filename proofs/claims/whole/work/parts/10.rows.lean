section ROWS2
variable {p : Program} {l : Launch} {e : Env} {R : Room} {s : State} {m : MethodId} {args : Array Value} {below : List Frame} {meth : Method} {c : Code} {H : Heap} {locs : List Loc} {cells slots : Nat} {Q : State → Prop}
variable {cc : ByteArray} {pc : Nat} {lsA : Array Slot} {rest : List Value} {own : String} {b B : Nat} {dC : Nat → ClassId} {dI : Nat → Nat → Nat} {aC : Nat → ClassId} {S : xS}
theorem xup_same (M : xM) (k : Nat) (i v : Int) : xup M k i v k i = v := by simp [xup]
theorem xup_k (M : xM) {k k' : Nat} (i v : Int) (h : k' ≠ k) : xup M k i v k' = M k' := by funext i'; simp [xup, h]
theorem xup_i (M : xM) (k : Nat) {i i' : Int} (v : Int) (h : i' ≠ i) : xup M k i v k i' = M k i' := by simp [xup, h]
theorem xput_get {a j k : Nat} {M : xM} {v : xV} {g : Option Prop} {x : Int} (hp : xput xft a j S v = some (g, x)) : xget xft a j k (xup M k (j : Int) x) = v := by
  unfold xput at hp
  unfold xget
  generalize (xft a j).1 = t at hp
  rw [xup_same]
  split at hp
  · cases hp; rfl
  · cases hp; rfl
  · cases hp; rfl
  · cases hp
    show Sum.inr (xref _) = _
    rw [xref_nat]
  · cases hp
theorem xput_other {a j i k : Nat} {M : xM} {x : Int} (h : i ≠ j) : xget xft a i k (xup M k (j : Int) x) = xget xft a i k M := by
  unfold xget
  rw [xup_i M k x (show (i : Int) ≠ (j : Int) by omega)]
theorem x_S {A : Nat → Prop} {H0 H1 : Heap} {locs : List Loc} (hS : va_S (fun q => B ≤ q) H0 H locs) {k i : Nat} (hk : 0 < k) (z : H1.size = H.size) (oq : ∀ q : Nat, q ≠ xad b B k → H1[q]? = H[q]?) : va_S (fun q => B ≤ q) H0 H1 (locs ++ [⟨xad b B k, i⟩]) :=
  hS.put z oq (by show B ≤ xad b B k; rw [xad_pos hk]; omega)
theorem xr_put (hx : p.tables.exec = Jvm.exec) (hb : c.code = cc) (hts : ∀ w ∈ xG, w.before args s = true) (hown : s.vm.findClass own = some m.cls) (hK : xKK dC dI aC s) (hR : xRep b B dC dI aC s S H) (hS : va_S (fun q => B ≤ q) s.heap H locs) {k a j index : Nat} {v : xV} {g : Option Prop} {x : Int} (hk : 0 < k) (ho : xob S k a) (hj : j < xNf a) (ha : a < 60)
    (hp : xput xft a j S v = some (g, x)) (hg : ∀ P, g = some P → P) (hlink : Cond.fieldLink own index (xTX (a % 30) j).1 (xTX (a % 30) j).2.1 (xTX (a % 30) j).2.2.1 ∈ xG) (hfin : (xTX (a % 30) j).2.2.2 = true → meth.name = "<init>" ∧ (xTX (a % 30) j).1 = own) (hdg : decode cc pc = .ok (.putfield index, 3))
    (kk : ∀ (H1 : Heap) (locs1 : List Loc), xRep b B dC dI aC s (S.1, S.2.1, S.2.2.1, xup S.2.2.2 k (j : Int) x) H1 → va_S (fun q => B ≤ q) s.heap H1 locs1 → W p l e R s m args below meth c H1 locs1 cells slots Q (F0 m (pc + 3) lsA rest)) : W p l e R s m args below meth c H locs cells slots Q (F0 m pc lsA (xcv (xad b B) v :: .ref (xad b B k) :: rest)) := by
  obtain ⟨hc, cell, q1, q2, q3, q4⟩ := x_obj hR hk ho
  obtain ⟨hn, hf⟩ := x_fit (S := S) hc hj ha hp hg (xad b B)
  have hKn := hK.1.1 (a % 30) _ (x_cl _ hc)
  obtain ⟨hSl, hfc, kC, hkC, hkind⟩ := hKn
  have hj0 := hj
  rw [xNf_mod] at hj q4
  have hap := va_apart (own := own) hts (x_ws _ hc) (xTy (a % 30)) (x_ty _ hc) (x_nm _ hc) hK.1 (x_cl _ hc)
  obtain ⟨cf, kf, fi, f, hi, hsl⟩ := hSl j hj
  have hst := (u_facts hfc hkC (u_lays hts (x_ws _ hc) hj) hi).1
  have hlay := hts _ (x_ws _ hc _ (u_in_lay hj))
  unfold u_lay at hlay
  have fin : ∀ (H1 : Heap), H1[xad b B k]? = some (cell.setSlot (dI (a % 30) j) (xcv (xad b B) v)) → H1.size = H.size → (∀ q, q ≠ xad b B k → H1[q]? = H[q]?) → xRep b B dC dI aC s (S.1, S.2.1, S.2.2.1, xup S.2.2.2 k (j : Int) x) H1 := by
    intro H1 e1 e2 e3
    refine hR.set hk rfl (fun _ _ => rfl) (fun i hi => xup_k _ _ _ hi) e2 e3 (fun hl => ?_)
    have hkd : (S.2.2.1 k).1 = 10 + a := ho.2
    refine ⟨fun h => ?_, fun h => ?_, fun _ => ?_⟩
    · change 1 ≤ (S.2.2.1 k).1 ∧ (S.2.2.1 k).1 ≤ 3 at h; omega
    · change (S.2.2.1 k).1 = 4 at h; omega
    · show ((S.2.2.1 k).1 - 10) % 30 < 11 ∧ t_OB _ (dC (((S.2.2.1 k).1 - 10) % 30)) (xNf ((S.2.2.1 k).1 - 10)) (dI (((S.2.2.1 k).1 - 10) % 30)) H1 (fun i => xcv (xad b B) (xget xft ((S.2.2.1 k).1 - 10) i k (xup S.2.2.2 k (j : Int) x)))
      rw [hkd, Nat.add_sub_cancel_left]
      refine ⟨hc, t_OB.to (V := updV (fun i => xcv (xad b B) (xget xft a i k S.2.2.2)) j (xcv (xad b B) v)) ⟨_, e1, q2, q3, by rw [xNf_mod]; exact t_set q4 hap hj _⟩ (fun i _ => ?_)⟩
      by_cases hij : i = j
      · subst hij
        simp only [updV, if_true]
        rw [xput_get hp]
      · simp only [updV, hij, if_false]
        rw [xput_other hij]
  by_cases hfn : (xTX (a % 30) j).2.2.2 = true
  · obtain ⟨hin2, hdecl⟩ := hfin hfn
    rw [if_pos hfn] at hlay
    have hcf : m.cls = cf := by
      obtain ⟨_, _, c', _, _, _, -, -, hf', -, -, -, hown2, -⟩ := Cond.laysFinal_spec hlay
      have e1 : c' = cf := by have := hi.symm.trans hf'; simp at this; exact this.1.symm
      rw [hdecl] at hown2
      rw [← e1]; exact Option.some.inj (hown.symm.trans hown2)
    have h6 := u_fits hfc hkC hkind (Or.inr hlay) hi (x_ty _ hc j hj) hn hf
    refine W.putFinK hx hb hown (hts _ hlink) hi hst hcf hin2 (by rw [q2]; exact h6) q1 q3 (by rw [hsl]; exact k2_hasslot (q4 j hj)) rfl rfl hdg fun H1 e1 e2 e3 => ?_
    rw [hsl] at e1 ⊢
    exact kk H1 _ (fin H1 e1 e2 e3) (x_S (A := fun _ => True) hS hk e2 e3)
  · rw [if_neg hfn] at hlay
    have h6 := u_store hfc hkC hkind hlay hi (x_ty _ hc j hj) hn hf
    refine W.putK hx hb (f := f) ⟨hown, hts _ hlink, ⟨_, _, _, hi⟩, hst⟩ (by rw [q2]; exact h6) q1 q3 (by rw [hsl]; exact k2_hasslot (q4 j hj)) rfl rfl hdg fun H1 e1 e2 e3 => ?_
    rw [hsl] at e1 ⊢
    exact kk H1 _ (fin H1 e1 e2 e3) (x_S (A := fun _ => True) hS hk e2 e3)
theorem x_ao (hK : xKK dC dI aC s) {t : Nat} {ty : FieldType} (h : (xtys aC)[t]? = some (aC (t + 1), ty)) : ArrOfT s (aC (t + 1)) ty := (hK.1.2 t _ h).1
theorem x_at {len : Nat} {M : xM} {k : Nat} {i : Int} (h0 : 0 ≤ wr i) : ((wr i).toNat : Int) = wr i := by omega
theorem xr_iald (hx : p.tables.exec = Jvm.exec) (hb : c.code = cc) (hK : xKK dC dI aC s) (hR : xRep b B dC dI aC s S H) {k : Nat} {i : Int} (h : xin S k (if k = 0 then 5 else 1) i) (hdg : decode cc pc = .ok (.iaload, 1))
    (kk : W p l e R s m args below meth c H locs cells slots Q (F0 m (pc + 1) lsA (.int (Int32.ofInt (S.2.2.2 k i)) :: rest))) : W p l e R s m args below meth c H locs cells slots Q (F0 m pc lsA (.int (Int32.ofInt i) :: .ref (xad b B k) :: rest)) := by
  have hi := xin_of h
  have hlt : (wr i).toNat < (S.2.2.1 k).2 := by rw [xin_wr h]; have := h.2.2; omega
  have hcast : ((wr i).toNat : Int) = i := by rw [xin_wr h]; have := h.2.2.1; omega
  by_cases hk : k = 0
  · subst hk
    obtain ⟨scr, h1, h2, h3, h4, h5⟩ := hR.2.1.2
    rw [xad_0]
    refine W.iald (v := .int (Int32.ofInt (S.2.2.2 0 i))) hx hb h1 h2 h3 (by rw [h4]; exact hi) ?_ rfl rfl hdg kk
    rw [wr_clamp, h5 _ hlt]
    show some (Value.int (Int32.ofInt (S.2.2.2 0 ((wr i).toNat : Int)))) = _
    rw [hcast]
  · have ht : (S.2.2.1 k).1 = 1 := by have := h.2.1; rw [if_neg hk] at this; exact this
    have hR1 := x_arr hR (Nat.pos_of_ne_zero hk) h.1 ht (by omega) (by omega)
    refine W.iald (v := .int (Int32.ofInt (S.2.2.2 k i))) hx hb hR1 (x_ao hK (t := 0) rfl _ _) (fun q => by cases q) (by rw [arrV_size]; exact hi) ?_ rfl rfl hdg kk
    rw [wr_clamp, arrV_read _ _ hlt, hcast]
theorem xr_zald (hx : p.tables.exec = Jvm.exec) (hb : c.code = cc) (hK : xKK dC dI aC s) (hR : xRep b B dC dI aC s S H) {k : Nat} {i : Int} (hk : 0 < k) (h : xin S k 2 i) (hdg : decode cc pc = .ok (.baload, 1))
    (kk : W p l e R s m args below meth c H locs cells slots Q (F0 m (pc + 1) lsA (.int (Int32.ofInt (S.2.2.2 k i)) :: rest))) : W p l e R s m args below meth c H locs cells slots Q (F0 m pc lsA (.int (Int32.ofInt i) :: .ref (xad b B k) :: rest)) := by
  have hi := xin_of h
  have hlt : (wr i).toNat < (S.2.2.1 k).2 := by rw [xin_wr h]; have := h.2.2; omega
  have hcast : ((wr i).toNat : Int) = i := by rw [xin_wr h]; have := h.2.2.1; omega
  have hR1 := x_arr hR hk h.1 h.2.1 (by omega) (by omega)
  refine W.zald (v := .int (Int32.ofInt (S.2.2.2 k i))) hx hb hR1 (x_ao hK (t := 1) rfl _ _) (fun q => by cases q) (by rw [arrV_size]; exact hi) ?_ rfl rfl hdg kk
  rw [wr_clamp, arrV_read _ _ hlt, hcast]
theorem xr_sald (hx : p.tables.exec = Jvm.exec) (hb : c.code = cc) (hK : xKK dC dI aC s) (hR : xRep b B dC dI aC s S H) {k : Nat} {i : Int} (hk : 0 < k) (h : xin S k 3 i) (hdg : decode cc pc = .ok (.saload, 1))
    (kk : W p l e R s m args below meth c H locs cells slots Q (F0 m (pc + 1) lsA (.int (Int32.ofInt (S.2.2.2 k i)) :: rest))) : W p l e R s m args below meth c H locs cells slots Q (F0 m pc lsA (.int (Int32.ofInt i) :: .ref (xad b B k) :: rest)) := by
  have hi := xin_of h
  have hlt : (wr i).toNat < (S.2.2.1 k).2 := by rw [xin_wr h]; have := h.2.2; omega
  have hcast : ((wr i).toNat : Int) = i := by rw [xin_wr h]; have := h.2.2.1; omega
  have hR1 := x_arr hR hk h.1 h.2.1 (by omega) (by omega)
  refine W.sald (v := .int (Int32.ofInt (S.2.2.2 k i))) hx hb hR1 (x_ao hK (t := 2) rfl _ _) (fun q => by cases q) (by rw [arrV_size]; exact hi) ?_ rfl rfl hdg kk
  rw [wr_clamp, arrV_read _ _ hlt, hcast]
theorem xr_aald (hx : p.tables.exec = Jvm.exec) (hb : c.code = cc) (hK : xKK dC dI aC s) (hR : xRep b B dC dI aC s S H) {k : Nat} {i : Int} (hk : 0 < k) (h : xin S k 4 i) (hdg : decode cc pc = .ok (.aaload, 1))
    (kk : W p l e R s m args below meth c H locs cells slots Q (F0 m (pc + 1) lsA (va_rf ((xref (S.2.2.2 k i)).map (xad b B)) :: rest))) : W p l e R s m args below meth c H locs cells slots Q (F0 m pc lsA (.int (Int32.ofInt i) :: .ref (xad b B k) :: rest)) := by
  have hi := xin_of h
  have hlt : (wr i).toNat < (S.2.2.1 k).2 := by rw [xin_wr h]; have := h.2.2; omega
  have hcast : ((wr i).toNat : Int) = i := by rw [xin_wr h]; have := h.2.2.1; omega
  have hR1 := x_arrq hR hk h.1 h.2.1
  refine W.aald (v := va_rf ((xref (S.2.2.2 k i)).map (xad b B))) hx hb hR1 (x_ao hK (t := 3) rfl _ _) rfl (fun q => by cases q) (by rw [arrV_size]; exact hi) ?_ rfl rfl hdg kk
  rw [wr_clamp, arrV_read _ _ hlt, hcast]
theorem x_upd {M : xM} {k : Nat} {i x : Int} (h0 : 0 ≤ wr i) (V : Value) (hV : V = .int (Int32.ofInt x)) : updV (fun q : Nat => Value.int (Int32.ofInt (M k (q : Int)))) (wr i).toNat V = fun q : Nat => Value.int (Int32.ofInt (xup M k (wr i) x k (q : Int))) := by
  funext q
  subst hV
  by_cases hq : q = (wr i).toNat
  · subst hq
    have e : (((wr i).toNat : Nat) : Int) = wr i := by omega
    simp only [updV, if_true]
    rw [e, xup_same]
  · simp only [updV, hq, if_false]
    rw [xup_i M k x (show (q : Int) ≠ wr i by omega)]
theorem x_store (hR : xRep b B dC dI aC s S H) {k t : Nat} {i x : Int} (hk : 0 < k) (h : xin S k t i) (h1 : 1 ≤ t) (h3 : t ≤ 3) {V : Value} (hV : V = .int (Int32.ofInt x)) {H1 : Heap} (e1 : H1[xad b B k]? = some ((arrV (aC t) (S.2.2.1 k).2 (fun i => .int (Int32.ofInt (S.2.2.2 k (i : Int))))).setSlot (Int32.ofInt i).toNatClampNeg V)) (e2 : H1.size = H.size) (e3 : ∀ q, q ≠ xad b B k → H1[q]? = H[q]?) :
    xRep b B dC dI aC s (S.1, S.2.1, S.2.2.1, xup S.2.2.2 k i x) H1 := by
  refine hR.set hk rfl (fun _ _ => rfl) (fun j hj => xup_k _ _ _ hj) e2 e3 (fun hl => ?_)
  have hkd : (S.2.2.1 k).1 = t := h.2.1
  refine ⟨fun g => ?_, fun g => ?_, fun g => ?_⟩
  · show H1[xad b B k]? = some (arrV (aC (S.2.2.1 k).1) (S.2.2.1 k).2 _)
    rw [e1, hkd, arrV_store, wr_clamp, x_upd (by rw [xin_wr h]; exact h.2.2.1) V hV, xin_wr h]
  · change (S.2.2.1 k).1 = 4 at g; omega
  · change 10 ≤ (S.2.2.1 k).1 at g; omega
theorem xr_iast (hx : p.tables.exec = Jvm.exec) (hb : c.code = cc) (hK : xKK dC dI aC s) (hR : xRep b B dC dI aC s S H) (hS : va_S (fun q => B ≤ q) s.heap H locs) {k : Nat} {i x : Int} (hk : 0 < k) (h : xin S k 1 i) (hdg : decode cc pc = .ok (.iastore, 1))
    (kk : ∀ (H1 : Heap) (locs1 : List Loc), xRep b B dC dI aC s (S.1, S.2.1, S.2.2.1, xup S.2.2.2 k i x) H1 → va_S (fun q => B ≤ q) s.heap H1 locs1 → W p l e R s m args below meth c H1 locs1 cells slots Q (F0 m (pc + 1) lsA rest)) : W p l e R s m args below meth c H locs cells slots Q (F0 m pc lsA (.int (Int32.ofInt x) :: .int (Int32.ofInt i) :: .ref (xad b B k) :: rest)) := by
  refine W.iast hx hb (x_arr hR hk h.1 h.2.1 (by omega) (by omega)) (x_ao hK (t := 0) rfl _ _) (fun q => by cases q) (by rw [arrV_size]; exact xin_of h) rfl rfl hdg fun H1 e1 e2 e3 => ?_
  exact kk H1 _ (x_store hR hk h (by omega) (by omega) rfl e1 e2 e3) (x_S (A := fun _ => True) hS hk e2 e3)
theorem xr_zast (hx : p.tables.exec = Jvm.exec) (hb : c.code = cc) (hK : xKK dC dI aC s) (hR : xRep b B dC dI aC s S H) (hS : va_S (fun q => B ≤ q) s.heap H locs) {k : Nat} {i x : Int} (hk : 0 < k) (h : xin S k 2 i) (hv : x = 0 ∨ x = 1) (hdg : decode cc pc = .ok (.bastore, 1))
    (kk : ∀ (H1 : Heap) (locs1 : List Loc), xRep b B dC dI aC s (S.1, S.2.1, S.2.2.1, xup S.2.2.2 k i x) H1 → va_S (fun q => B ≤ q) s.heap H1 locs1 → W p l e R s m args below meth c H1 locs1 cells slots Q (F0 m (pc + 1) lsA rest)) : W p l e R s m args below meth c H locs cells slots Q (F0 m pc lsA (.int (Int32.ofInt x) :: .int (Int32.ofInt i) :: .ref (xad b B k) :: rest)) := by
  refine W.zast hx hb (x_arr hR hk h.1 h.2.1 (by omega) (by omega)) (x_ao hK (t := 1) rfl _ _) (fun q => by cases q) (by rw [arrV_size]; exact xin_of h) rfl rfl hdg fun H1 e1 e2 e3 => ?_
  exact kk H1 _ (x_store hR hk h (by omega) (by omega) (by rcases hv with rfl | rfl <;> rfl) e1 e2 e3) (x_S (A := fun _ => True) hS hk e2 e3)
theorem x_short {x : Int} (h1 : -32768 ≤ x) (h2 : x ≤ 32767) : narrow .short (.int (Int32.ofInt x)) = .int (Int32.ofInt x) := by
  rw [narrow_short]
  congr 1
  apply Int32.toInt_inj.mp
  have e1 : (Int32.ofInt x).toInt = x := Int32.toInt_ofInt_of_le (by omega) (by omega)
  rw [Int16.toInt_toInt32, Int32.toInt_toInt16, e1]
  simp [Int.bmod]
  omega
theorem xr_sast (hx : p.tables.exec = Jvm.exec) (hb : c.code = cc) (hK : xKK dC dI aC s) (hR : xRep b B dC dI aC s S H) (hS : va_S (fun q => B ≤ q) s.heap H locs) {k : Nat} {i x : Int} (hk : 0 < k) (h : xin S k 3 i) (hv : -32768 ≤ x ∧ x ≤ 32767) (hdg : decode cc pc = .ok (.sastore, 1))
    (kk : ∀ (H1 : Heap) (locs1 : List Loc), xRep b B dC dI aC s (S.1, S.2.1, S.2.2.1, xup S.2.2.2 k i x) H1 → va_S (fun q => B ≤ q) s.heap H1 locs1 → W p l e R s m args below meth c H1 locs1 cells slots Q (F0 m (pc + 1) lsA rest)) : W p l e R s m args below meth c H locs cells slots Q (F0 m pc lsA (.int (Int32.ofInt x) :: .int (Int32.ofInt i) :: .ref (xad b B k) :: rest)) := by
  refine W.sast hx hb (x_arr hR hk h.1 h.2.1 (by omega) (by omega)) (x_ao hK (t := 2) rfl _ _) (fun q => by cases q) (by rw [arrV_size]; exact xin_of h) rfl rfl hdg fun H1 e1 e2 e3 => ?_
  exact kk H1 _ (x_store hR hk h (by omega) (by omega) (x_short hv.1 hv.2) e1 e2 e3) (x_S (A := fun _ => True) hS hk e2 e3)
theorem xr_alen (hx : p.tables.exec = Jvm.exec) (hb : c.code = cc) (hK : xKK dC dI aC s) (hR : xRep b B dC dI aC s S H) {k : Nat} (hk : k < S.1) (hkd : (S.2.2.1 k).1 = (if k = 0 then 5 else 1)) (hdg : decode cc pc = .ok (.arraylength, 1))
    (kk : W p l e R s m args below meth c H locs cells slots Q (F0 m (pc + 1) lsA (.int (Int32.ofInt ((S.2.2.1 k).2 : Int)) :: rest))) : W p l e R s m args below meth c H locs cells slots Q (F0 m pc lsA (.ref (xad b B k) :: rest)) := by
  have e0 : ∀ n : Nat, (n.toInt32 : Int32) = Int32.ofInt (n : Int) := fun n => (Int32.ofInt_eq_ofNat (n := n)).symm
  by_cases hk0 : k = 0
  · subst hk0
    obtain ⟨scr, h1, h2, h3, h4, h5⟩ := hR.2.1.2
    rw [xad_0]
    exact W.alen hx hb h1 h2 (by rw [h4]; exact e0 _) rfl rfl hdg kk
  · rw [if_neg hk0] at hkd
    exact W.alen hx hb (x_arr hR (Nat.pos_of_ne_zero hk0) hk hkd (by omega) (by omega)) (x_ao hK (t := 0) rfl _ _) (by rw [arrV_size]; exact e0 _) rfl rfl hdg kk
end ROWS2
