/-! ===== one instruction of the small machine is one of the machine ===== -/
def xlen : Instr → Nat
  | .bipush _ => 2
  | .sipush _ => 3
  | .ldc _ => 2
  | .iload _ => 2
  | .aload _ => 2
  | .istore _ => 2
  | .astore _ => 2
  | .iinc _ _ => 3
  | .getfield _ => 3
  | .putfield _ => 3
  | .newarray _ => 2
  | .anewarray _ => 3
  | .new _ => 3
  | .invokespecial _ => 3
  | .invokestatic _ => 3
  | .invokevirtual _ => 3
  | .if_icmp _ _ => 3
  | .ifCond _ _ => 3
  | .goto _ => 3
  | .nop => 0
  | _ => 1
/-- what an instruction asks of the tables -/
def xwo (own : String) (nL : Nat) (init : Bool) (ins : Instr) (a b : Nat) : Prop := match ins with
  | .istore_n k => (k : Nat) < nL
  | .istore k => k < nL
  | .astore_n k => (k : Nat) < nL
  | .astore k => k < nL
  | .bipush n => -128 ≤ n ∧ n ≤ 127
  | .sipush n => -32768 ≤ n ∧ n ≤ 32767
  | .ldc i => Cond.constant own i (Int32.ofInt (a : Int)) ∈ xG
  | .getfield i => b < xNf a ∧ Cond.fieldLink own i (xTX (a % 30) b).1 (xTX (a % 30) b).2.1 (xTX (a % 30) b).2.2.1 ∈ xG
  | .putfield i => b < xNf a ∧ a < 60 ∧ Cond.fieldLink own i (xTX (a % 30) b).1 (xTX (a % 30) b).2.1 (xTX (a % 30) b).2.2.1 ∈ xG ∧ ((xTX (a % 30) b).2.2.2 = true → init = true ∧ (xTX (a % 30) b).1 = own)
  | .newarray t => xatype t = a ∧ 0 < a ∧ Cond.arrayClass (newarray.typeOf t) ∈ xG
  | .anewarray i => Cond.classLink own i "MatchForge$Match" ∈ xG
  | .new i => 30 ≤ a ∧ a - 30 < 11 ∧ Cond.classLink own i (xRX (a - 30)) ∈ xG ∧ Cond.instantiable (xRX (a - 30)) (xNf (a - 30)) ∈ xG ∧ Cond.initialized (xRX (a - 30)) ∈ xG
  | .aastore => a = 3
  | .nop => a = 2 → b < 11
  | .invokespecial i => a = 1000 → Cond.methodLink own i objectInit ∈ xG ∧ Cond.instanceMethod objectInit ∈ xG ∧ Cond.code objectInit ⟨#[0xb1]⟩ 1 none ∈ xG
  | .invokestatic i => (a = 1001 → Cond.methodLink own i arraycopyName ∈ xG ∧ Cond.native arraycopyName ∈ xG ∧ Cond.static arraycopyName ∈ xG ∧ Cond.initialized "java/lang/System" ∈ xG) ∧ (a = 1002 → Cond.methodLink own i Lib.Math.max.name ∈ xG ∧ Cond.static Lib.Math.max.name ∈ xG ∧ Cond.initialized "java/lang/Math" ∈ xG ∧ Cond.code Lib.Math.max.name Lib.Math.max.code 2 (some .int) ∈ xG) ∧ (a = 1003 → Cond.methodLink own i Lib.Math.min.name ∈ xG ∧ Cond.static Lib.Math.min.name ∈ xG ∧ Cond.initialized "java/lang/Math" ∈ xG ∧ Cond.code Lib.Math.min.name Lib.Math.min.code 2 (some .int) ∈ xG)
  | _ => True
/-- the machine, over the small machine's state: from every heap and every locals that it stands for -/
def xWat (p : Program) (l : Launch) (e : Env) (R : Room) (s : State) (m : MethodId) (args : Array Value) (below : List Frame) (meth : Method) (c : Code) (Qw : State → Prop) (b B : Nat) (dC : Nat → ClassId) (dI : Nat → Nat → Nat) (aC : Nat → ClassId) (nL : Nat) (S0 : xS) (pc : Nat) (ls : xL) (st : List xV) (S : xS) : Prop :=
  S0.1 ≤ S.1 → S0.2.1 ≤ S.2.1 → ∀ (lsA : Array Slot) (H : Heap) (locs : List Loc), xloc (xad b B) lsA nL ls → xRep b B dC dI aC s S H → va_S (fun q => B ≤ q) s.heap H locs → W p l e R s m args below meth c H locs (S.1 - S0.1) (S.2.1 - S0.2.1) Qw (F0 m pc lsA (st.map (xcv (xad b B))))
/-- what stands all along a method's body -/
def xFx (p : Program) (R : Room) (s : State) (m : MethodId) (args : Array Value) (meth : Method) (c : Code) (cc : ByteArray) (own : String) (nL : Nat) (init : Bool) (dC : Nat → ClassId) (dI : Nat → Nat → Nat) (aC : Nat → ClassId) : Prop :=
  p.tables.exec = Jvm.exec ∧ c.code = cc ∧ c.maxLocals = nL ∧ s.vm.findClass own = some m.cls ∧ (∀ w ∈ xG, w.before args s = true) ∧ xKK dC dI aC s ∧ (init = true → meth.name = "<init>") ∧ 1 ≤ R.frames ∧ 41 ≤ R.locals
theorem x_sum (ad : Nat → Nat) (st : List xV) : ((st.map (xcv ad)).map fun v => v.category).sum = st.length := by
  induction st with
  | nil => rfl
  | cons v t ih => simp only [List.map_cons, List.sum_cons, ih, xcv_cat, List.length_cons]; omega
section SIM
variable {p : Program} {l : Launch} {e : Env} {R : Room} {s : State} {m : MethodId} {args : Array Value} {below : List Frame} {meth : Method} {c : Code} {Qw : State → Prop}
variable {cc : ByteArray} {own : String} {b B : Nat} {dC : Nat → ClassId} {dI : Nat → Nat → Nat} {aC : Nat → ClassId} {nL : Nat} {init : Bool} {S0 : xS}
theorem x_ofInt_add (x y : Int) : Int32.ofInt x + Int32.ofInt y = Int32.ofInt (x + y) := (Int32.ofInt_add x y).symm
theorem x_ofInt_sub (x y : Int) : Int32.ofInt x - Int32.ofInt y = Int32.ofInt (x - y) := (Int32.ofInt_sub x y).symm
theorem x_ofInt_mul (x y : Int) : Int32.ofInt x * Int32.ofInt y = Int32.ofInt (x * y) := (Int32.ofInt_mul x y).symm
theorem x_ofInt_toInt (x : Int32) : Int32.ofInt x.toInt = x := Int32.ofInt_toInt x
theorem x_widen {pc : Nat} {lsA : Array Slot} {stA : List Value} {H : Heap} {locs : List Loc} {k n k' n' : Nat} (h1 : k = k') (h2 : n = n') (h : W p l e R s m args below meth c H locs k' n' Qw (F0 m pc lsA stA)) : W p l e R s m args below meth c H locs k n Qw (F0 m pc lsA stA) := by
  subst h1; subst h2; exact h
set_option maxHeartbeats 4000000 in
theorem xsim_snd (F : xFx p R s m args meth c cc own nL init dC dI aC) {pc a b' : Nat} {ins : Instr} {ls ls' : xL} {st st' : List xV} {S S' : xS} {g : Option Prop} (hsim : xsim xft xNf ins a b' ls st S = some (g, ls', st', S')) (hg : ∀ P, g = some P → P) (hd : ins ≠ .nop → decode cc pc = .ok (ins, xlen ins)) (hw : xwo own nL init ins a b')
    (hc : S'.1 - S0.1 ≤ R.cells) (hs : S'.2.1 - S0.2.1 ≤ R.slots) (hnL : ls.length = nL)
    (kk : xWat p l e R s m args below meth c Qw b B dC dI aC nL S0 (pc + xlen ins) ls' st' S') : xWat p l e R s m args below meth c Qw b B dC dI aC nL S0 pc ls st S := by
  obtain ⟨hx, hb, hml, hown, hts, hK, hin, hfr, hlo⟩ := id F
  intro h1 h2 lsA H locs hl hR hS
  have hat : ∀ {i : Nat} {v : xV}, ls[i]? = some (some v) → lsA[i]? = some (.val (xcv (xad b B) v)) := fun h => hl.at h
  have hlt : ∀ {i : Nat} {v : xV}, ls[i]? = some (some v) → i < nL := fun h => by
    have := (List.getElem?_eq_some_iff.mp h).1
    rw [hnL] at this; exact this
  unfold xsim at hsim
  cases ins with
  | iconst n =>
    cases hsim
    exact lv_iconst hx hb (hd (by simp)) rfl (kk h1 h2 lsA H locs hl hR hS)
  | bipush n =>
    cases hsim
    refine lv_bipush (v := Int32.ofInt n) hx hb (hd (by simp)) ?_ (kk h1 h2 lsA H locs hl hR hS)
    obtain ⟨w1, w2⟩ := hw
    apply Int32.toInt_inj.mp
    rw [Int8.toInt_toInt32, Int8.toInt_ofInt_of_le (by omega) (by omega), Int32.toInt_ofInt_of_le (by omega) (by omega)]
  | sipush n =>
    cases hsim
    refine lv_sipush (v := Int32.ofInt n) hx hb (hd (by simp)) ?_ (kk h1 h2 lsA H locs hl hR hS)
    obtain ⟨w1, w2⟩ := hw
    apply Int32.toInt_inj.mp
    rw [Int16.toInt_toInt32, Int16.toInt_ofInt_of_le (by omega) (by omega), Int32.toInt_ofInt_of_le (by omega) (by omega)]
  | ldc i =>
    cases hsim
    exact lv_ldc hx hb hown (hts _ hw) (hd (by simp)) (kk h1 h2 lsA H locs hl hR hS)
  | aconst_null =>
    cases hsim
    exact lv_null hx hb (hd (by simp)) (kk h1 h2 lsA H locs hl hR hS)
  | iload_n k =>
    dsimp only at hsim
    split at hsim
    · rename_i x hv; cases hsim
      exact lv_iload_n hx hb (hd (by simp)) rfl (hat hv) (kk h1 h2 lsA H locs hl hR hS)
    · cases hsim
  | iload k =>
    dsimp only at hsim
    split at hsim
    · rename_i x hv; cases hsim
      exact lv_iload hx hb (hd (by simp)) (hat hv) (kk h1 h2 lsA H locs hl hR hS)
    · cases hsim
  | aload_n k =>
    dsimp only at hsim
    split at hsim
    · rename_i x hv; cases hsim
      cases x with
      | none => exact lv_aload_nN hx hb (hd (by simp)) rfl (hat hv) (kk h1 h2 lsA H locs hl hR hS)
      | some x => exact lv_aload_n hx hb (hd (by simp)) rfl (hat hv) (kk h1 h2 lsA H locs hl hR hS)
    · cases hsim
  | aload k =>
    dsimp only at hsim
    split at hsim
    · rename_i x hv; cases hsim
      cases x with
      | none => exact lv_aloadN hx hb (hd (by simp)) (hat hv) (kk h1 h2 lsA H locs hl hR hS)
      | some x => exact lv_aload hx hb (hd (by simp)) (hat hv) (kk h1 h2 lsA H locs hl hR hS)
    · cases hsim
  | istore_n k =>
    dsimp only at hsim
    split at hsim
    · rename_i x st0; cases hsim
      have hkn : (k : Nat) < nL := hw
      exact lv_istore_n hx hb (hd (by simp)) rfl hl.has hkn rfl (fun ls2 h2' => kk h1 h2 ls2 H locs (hl.put h2') hR hS)
    · cases hsim
  | istore k =>
    dsimp only at hsim
    split at hsim
    · rename_i x st0; cases hsim
      have hkn : (k : Nat) < nL := hw
      exact lv_istore hx hb (hd (by simp)) hl.has hkn rfl (fun ls2 h2' => kk h1 h2 ls2 H locs (hl.put h2') hR hS)
    · cases hsim
  | astore_n k =>
    dsimp only at hsim
    split at hsim
    · rename_i x st0; cases hsim
      have hkn : (k : Nat) < nL := hw
      cases x with
      | none => exact lv_astore_nN hx hb (hd (by simp)) rfl hl.has hkn rfl (fun ls2 h2' => kk h1 h2 ls2 H locs (hl.put h2') hR hS)
      | some x => exact lv_astore_n hx hb (hd (by simp)) rfl hl.has hkn rfl (fun ls2 h2' => kk h1 h2 ls2 H locs (hl.put h2') hR hS)
    · cases hsim
  | astore k =>
    dsimp only at hsim
    split at hsim
    · rename_i x st0; cases hsim
      have hkn : (k : Nat) < nL := hw
      cases x with
      | none => exact lv_astoreN hx hb (hd (by simp)) hl.has hkn rfl (fun ls2 h2' => kk h1 h2 ls2 H locs (hl.put h2') hR hS)
      | some x => exact lv_astore hx hb (hd (by simp)) hl.has hkn rfl (fun ls2 h2' => kk h1 h2 ls2 H locs (hl.put h2') hR hS)
    · cases hsim
  | iinc k n =>
    dsimp only at hsim
    split at hsim
    · rename_i x hv; cases hsim
      have hl2 : lv_has lsA nL ((k, .int (Int32.ofInt x)) :: xlv (xad b B) nL ls) := ⟨hl.1, hl.2.1, fun q hq => by
        rcases List.mem_cons.mp hq with rfl | hq
        · exact hat hv
        · exact hl.has.2.2 q hq⟩
      refine lv_iinc (k := 0) (v := Int32.ofInt (x + n)) hx hb (hd (by simp)) hl2 rfl (x_ofInt_add x n) (hlt hv) rfl (fun ls2 h2' => kk h1 h2 ls2 H locs (hl.put (v := .inl (x + n)) ?_) hR hS)
      rw [List.filter_cons_of_neg (by simp)] at h2'
      exact h2'
    · cases hsim
  | iadd =>
    dsimp only at hsim
    split at hsim
    · rename_i y x st0; cases hsim
      refine lv_iadd hx hb (hd (by simp)) ?_
      rw [x_ofInt_add]
      exact kk h1 h2 lsA H locs hl hR hS
    · cases hsim
  | isub =>
    dsimp only at hsim
    split at hsim
    · rename_i y x st0; cases hsim
      refine lv_isub hx hb (hd (by simp)) ?_
      rw [x_ofInt_sub]
      exact kk h1 h2 lsA H locs hl hR hS
    · cases hsim
  | imul =>
    dsimp only at hsim
    split at hsim
    · rename_i y x st0; cases hsim
      refine lv_imul hx hb (hd (by simp)) ?_
      rw [x_ofInt_mul]
      exact kk h1 h2 lsA H locs hl hR hS
    · cases hsim
  | iand =>
    dsimp only at hsim
    split at hsim
    · rename_i y x st0; cases hsim
      refine lv_iand hx hb (hd (by simp)) ?_
      have q := kk h1 h2 lsA H locs hl hR hS
      simp only [List.map_cons, xcv, xand32, x_ofInt_toInt] at q
      exact q
    · cases hsim
  | ior =>
    dsimp only at hsim
    split at hsim
    · rename_i y x st0; cases hsim
      refine lv_ior hx hb (hd (by simp)) ?_
      have q := kk h1 h2 lsA H locs hl hR hS
      simp only [List.map_cons, xcv, xor32, x_ofInt_toInt] at q
      exact q
    · cases hsim
  | ixor =>
    dsimp only at hsim
    split at hsim
    · rename_i y x st0; cases hsim
      refine lv_ixor hx hb (hd (by simp)) ?_
      have q := kk h1 h2 lsA H locs hl hR hS
      simp only [List.map_cons, xcv, xxor32, x_ofInt_toInt] at q
      exact q
    · cases hsim
  | ishl =>
    dsimp only at hsim
    split at hsim
    · rename_i y x st0; cases hsim
      refine lv_ishl hx hb (hd (by simp)) ?_
      have q := kk h1 h2 lsA H locs hl hR hS
      simp only [List.map_cons, xcv, xshl32, x_ofInt_toInt] at q
      exact q
    · cases hsim
  | ishr =>
    dsimp only at hsim
    split at hsim
    · rename_i y x st0; cases hsim
      refine lv_ishr hx hb (hd (by simp)) ?_
      have q := kk h1 h2 lsA H locs hl hR hS
      simp only [List.map_cons, xcv, xshr32, x_ofInt_toInt] at q
      exact q
    · cases hsim
  | i2s =>
    dsimp only at hsim
    split at hsim
    · rename_i x st0; cases hsim
      refine lv_i2s hx hb (hd (by simp)) rfl ?_
      have q := kk h1 h2 lsA H locs hl hR hS
      simp only [List.map_cons, xcv, xi2s, x_ofInt_toInt] at q
      exact q
    · cases hsim
  | dup =>
    dsimp only at hsim
    split at hsim
    · rename_i v st0; cases hsim
      exact lv_dup hx hb (hd (by simp)) (xcv_cat _ _) (kk h1 h2 lsA H locs hl hR hS)
    · cases hsim
  | dup2 =>
    dsimp only at hsim
    split at hsim
    · rename_i v w st0; cases hsim
      exact lv_dup2_11 hx hb (hd (by simp)) (xcv_cat _ _) (xcv_cat _ _) (kk h1 h2 lsA H locs hl hR hS)
    · cases hsim
  | getfield i =>
    dsimp only at hsim
    split at hsim
    · rename_i k st0; cases hsim
      obtain ⟨g1, g2⟩ := hg _ rfl
      exact xr_get hx hb hts hown hK hR g1 g2 hw.1 hw.2 (hd (by simp)) (kk h1 h2 lsA H locs hl hR hS)
    · cases hsim
  | putfield i =>
    dsimp only at hsim
    obtain ⟨w1, w2, w3, w4⟩ := hw
    split at hsim
    · rename_i v k st0
      split at hsim
      · rename_i gg x hp; cases hsim
        obtain ⟨g1, g2, g3⟩ := hg _ rfl
        exact xr_put hx hb hts hown hK hR hS g1 g2 w1 w2 hp (fun P hP => by cases hP; exact g3) w3 (fun hf => ⟨hin (w4 hf).1, (w4 hf).2⟩) (hd (by simp)) (fun H1 locs1 hR1 hS1 => kk h1 h2 lsA H1 locs1 hl hR1 hS1)
      · rename_i x hp; cases hsim
        obtain ⟨g1, g2⟩ := hg _ rfl
        exact xr_put hx hb hts hown hK hR hS g1 g2 w1 w2 hp (fun P hP => by cases hP) w3 (fun hf => ⟨hin (w4 hf).1, (w4 hf).2⟩) (hd (by simp)) (fun H1 locs1 hR1 hS1 => kk h1 h2 lsA H1 locs1 hl hR1 hS1)
      · cases hsim
    · cases hsim
  | iaload =>
    dsimp only at hsim
    split at hsim
    · rename_i i k st0; cases hsim
      exact xr_iald hx hb hK hR (hg _ rfl) (hd (by simp)) (kk h1 h2 lsA H locs hl hR hS)
    · cases hsim
  | baload =>
    dsimp only at hsim
    split at hsim
    · rename_i i k st0; cases hsim
      obtain ⟨g1, g2⟩ := hg _ rfl
      exact xr_zald hx hb hK hR g1 g2 (hd (by simp)) (kk h1 h2 lsA H locs hl hR hS)
    · cases hsim
  | saload =>
    dsimp only at hsim
    split at hsim
    · rename_i i k st0; cases hsim
      obtain ⟨g1, g2⟩ := hg _ rfl
      exact xr_sald hx hb hK hR g1 g2 (hd (by simp)) (kk h1 h2 lsA H locs hl hR hS)
    · cases hsim
  | aaload =>
    dsimp only at hsim
    split at hsim
    · rename_i i k st0; cases hsim
      obtain ⟨g1, g2⟩ := hg _ rfl
      exact xr_aald hx hb hK hR g1 g2 (hd (by simp)) (kk h1 h2 lsA H locs hl hR hS)
    · cases hsim
  | iastore =>
    dsimp only at hsim
    split at hsim
    · rename_i x i k st0; cases hsim
      obtain ⟨g1, g2⟩ := hg _ rfl
      exact xr_iast hx hb hK hR hS g1 g2 (hd (by simp)) (fun H1 locs1 hR1 hS1 => kk h1 h2 lsA H1 locs1 hl hR1 hS1)
    · cases hsim
  | bastore =>
    dsimp only at hsim
    split at hsim
    · rename_i x i k st0; cases hsim
      obtain ⟨g1, g2, g3⟩ := hg _ rfl
      exact xr_zast hx hb hK hR hS g1 g2 g3 (hd (by simp)) (fun H1 locs1 hR1 hS1 => kk h1 h2 lsA H1 locs1 hl hR1 hS1)
    · cases hsim
  | sastore =>
    dsimp only at hsim
    split at hsim
    · rename_i x i k st0; cases hsim
      obtain ⟨g1, g2, g3⟩ := hg _ rfl
      exact xr_sast hx hb hK hR hS g1 g2 g3 (hd (by simp)) (fun H1 locs1 hR1 hS1 => kk h1 h2 lsA H1 locs1 hl hR1 hS1)
    · cases hsim
  | aastore =>
    dsimp only at hsim
    split at hsim
    · rename_i v i k st0; cases hsim
      obtain ⟨g1, g2, g3, g4⟩ := hg _ rfl
      have ha : a = 3 := hw
      subst ha
      exact xr_aast hx hb hK hR hS g1 g2 g3 g4 (hd (by simp)) (fun H1 locs1 hR1 hS1 => kk h1 h2 lsA H1 locs1 hl hR1 hS1)
    · cases hsim
  | arraylength =>
    dsimp only at hsim
    split at hsim
    · rename_i k st0; cases hsim
      obtain ⟨g1, g2⟩ := hg _ rfl
      exact xr_alen hx hb hK hR g1 g2 (hd (by simp)) (kk h1 h2 lsA H locs hl hR hS)
    · cases hsim
  | newarray t =>
    dsimp only at hsim
    split at hsim
    · rename_i n st0; cases hsim
      obtain ⟨g1, g2⟩ := hg _ rfl
      have hc' : S.1 + 1 - S0.1 ≤ R.cells := hc
      have hs' : S.2.1 + n.toNat - S0.2.1 ≤ R.slots := hs
      refine xr_newa hx hb hts hK hR hS hw.1 hw.2.1 hw.2.2 g1 g2 (by omega) (by omega) (hd (by simp)) (fun H1 hR1 hS1 => x_widen (k' := S.1 + 1 - S0.1) (n' := S.2.1 + n.toNat - S0.2.1) (by omega) (by omega) (kk (Nat.le_succ_of_le h1) (Nat.le_trans h2 (Nat.le_add_right _ _)) lsA H1 locs hl hR1 hS1))
    · cases hsim
  | anewarray i =>
    dsimp only at hsim
    split at hsim
    · rename_i n st0; cases hsim
      obtain ⟨g1, g2⟩ := hg _ rfl
      have hc' : S.1 + 1 - S0.1 ≤ R.cells := hc
      have hs' : S.2.1 + n.toNat - S0.2.1 ≤ R.slots := hs
      refine xr_anew hx hb hts hown hK hR hS hw g1 g2 (by omega) (by omega) (hd (by simp)) (fun H1 hR1 hS1 => x_widen (k' := S.1 + 1 - S0.1) (n' := S.2.1 + n.toNat - S0.2.1) (by omega) (by omega) (kk (Nat.le_succ_of_le h1) (Nat.le_trans h2 (Nat.le_add_right _ _)) lsA H1 locs hl hR1 hS1))
    · cases hsim
  | new i =>
    cases hsim
    obtain ⟨w1, w2, w3, w4, w5⟩ := hw
    have hc' : S.1 + 1 - S0.1 ≤ R.cells := hc
    have hs' : S.2.1 + xNf a - S0.2.1 ≤ R.slots := hs
    refine xr_new hx hb hts hown hK hR hS (show a = 30 + (a - 30) by omega) w2 w3 w4 w5 (by omega) (by omega) (hd (by simp)) (fun H1 hR1 hS1 => x_widen (k' := S.1 + 1 - S0.1) (n' := S.2.1 + xNf a - S0.2.1) (by omega) (by omega) (kk (Nat.le_succ_of_le h1) (Nat.le_trans h2 (Nat.le_add_right _ _)) lsA H1 locs hl hR1 hS1))
  | invokespecial i =>
    dsimp only at hsim
    split at hsim
    · rename_i k st0; cases hsim
      obtain ⟨w1, w2, w3⟩ := hw rfl
      have g1 : st'.length ≤ 8 := hg _ rfl
      refine W.objInit hx hb hown (hts _ w1) (hts _ w2) (hts _ w3) rfl (by rw [hml]; exact hl.1) rfl (hd (by simp)) hfr ?_ (kk h1 h2 lsA H locs hl hR hS)
      show 2 * 0 + ((st'.map (xcv (xad b B))).map fun v => v.category).sum + 12 ≤ R.locals
      rw [x_sum]; omega
    · cases hsim
  | invokestatic i =>
    dsimp only at hsim
    split at hsim
    · rename_i n dp d sp f st0; cases hsim
      obtain ⟨w1, w2, w3, w4⟩ := hw.1 rfl
      obtain ⟨g1, g2, g3, g4, g5, g6⟩ := hg _ rfl
      refine xr_copy hx hb (by rw [hml]; exact hl.1.symm) hts hown hK hR hS w1 w2 w3 w4 g1 g2 g3 g4 g5 hfr ?_ (hd (by simp)) (fun H1 locs1 hR1 hS1 => kk h1 h2 lsA H1 locs1 hl hR1 hS1)
      rw [x_sum]; omega
    · rename_i y x st0; cases hsim
      obtain ⟨w1, w2, w3, w4⟩ := hw.2.1 rfl
      obtain ⟨g1, g2, g3⟩ := hg _ rfl
      refine va_mmax hx hb (by rw [hml]; exact hl.1.symm) hown (hts _ w1) (hts _ w2) (hts _ w3) (hts _ w4) hfr (by rw [x_sum]; omega) hc hs (hd (by simp)) ?_
      have q := kk h1 h2 lsA H locs hl hR hS
      have e9 : Int32.ofInt (if x < y then y else x) = if Int32.ofInt x < Int32.ofInt y then Int32.ofInt y else Int32.ofInt x := by
        have hwl : Int32.ofInt x < Int32.ofInt y ↔ x < y := by rw [wr_lt, wr_id g2, wr_id g3]
        by_cases hc9 : x < y
        · rw [if_pos hc9, if_pos (hwl.mpr hc9)]
        · rw [if_neg hc9, if_neg (fun z => hc9 (hwl.mp z))]
      simp only [List.map_cons, xcv] at q
      rw [e9] at q
      exact q
    · rename_i y x st0; cases hsim
      obtain ⟨w1, w2, w3, w4⟩ := hw.2.2 rfl
      obtain ⟨g1, g2, g3⟩ := hg _ rfl
      refine va_mmin hx hb (by rw [hml]; exact hl.1.symm) hown (hts _ w1) (hts _ w2) (hts _ w3) (hts _ w4) hfr (by rw [x_sum]; omega) hc hs (hd (by simp)) ?_
      have q := kk h1 h2 lsA H locs hl hR hS
      have e9 : Int32.ofInt (if y < x then y else x) = if Int32.ofInt y < Int32.ofInt x then Int32.ofInt y else Int32.ofInt x := by
        have hwl : Int32.ofInt y < Int32.ofInt x ↔ y < x := by rw [wr_lt, wr_id g3, wr_id g2]
        by_cases hc9 : y < x
        · rw [if_pos hc9, if_pos (hwl.mpr hc9)]
        · rw [if_neg hc9, if_neg (fun z => hc9 (hwl.mp z))]
      simp only [List.map_cons, xcv] at q
      rw [e9] at q
      exact q
    · cases hsim
  | nop =>
    dsimp only at hsim
    split at hsim
    · rename_i k ls0; cases hsim
      obtain ⟨g1, g2, g3⟩ := hg _ rfl
      have hb11 : b' < 11 := hw rfl
      refine kk h1 h2 lsA H locs hl (hR.set (S' := (S.1, S.2.1, xnew S.2.2.1 k (10 + b', 0), S.2.2.2)) g1 rfl (fun j hj => xnew_ne _ _ hj) (fun _ _ => rfl) rfl (fun _ _ => rfl) (fun _ => ?_)) hS
      obtain ⟨-, hob⟩ := x_obj hR g1 g2
      refine ⟨fun q => ?_, fun q => ?_, fun _ => ?_⟩
      · change 1 ≤ (xnew S.2.2.1 k (10 + b', 0) k).1 ∧ (xnew S.2.2.1 k (10 + b', 0) k).1 ≤ 3 at q
        rw [xnew_at] at q
        change 1 ≤ 10 + b' ∧ 10 + b' ≤ 3 at q; omega
      · change (xnew S.2.2.1 k (10 + b', 0) k).1 = 4 at q
        rw [xnew_at] at q
        change 10 + b' = 4 at q; omega
      · show ((xnew S.2.2.1 k (10 + b', 0) k).1 - 10) % 30 < 11 ∧ t_OB (xad b B k) (dC (((xnew S.2.2.1 k (10 + b', 0) k).1 - 10) % 30)) (xNf ((xnew S.2.2.1 k (10 + b', 0) k).1 - 10)) (dI (((xnew S.2.2.1 k (10 + b', 0) k).1 - 10) % 30)) H (fun j => xcv (xad b B) (xget xft ((xnew S.2.2.1 k (10 + b', 0) k).1 - 10) j k S.2.2.2))
        rw [xnew_at]
        show (10 + b' - 10) % 30 < 11 ∧ t_OB (xad b B k) (dC ((10 + b' - 10) % 30)) (xNf (10 + b' - 10)) (dI ((10 + b' - 10) % 30)) H (fun j => xcv (xad b B) (xget xft (10 + b' - 10) j k S.2.2.2))
        have hm1 : b' % 30 = b' := Nat.mod_eq_of_lt (by omega)
        have hm2 : (30 + b') % 30 = b' := by omega
        have hN : xNf (30 + b') = xNf b' := by rw [xNf_mod, hm2]
        rw [hm2, hN] at hob
        rw [Nat.add_sub_cancel_left, hm1]
        refine ⟨hb11, hob.to (fun j hj => ?_)⟩
        congr 1
        have q3 := g3 j hj
        have e1 : xft b' j = xft0 b' j := by
          unfold xft
          have e : Nat.blt b' 30 = true := by rw [Nat.blt_eq]; omega
          simp only [e, cond_true]
        have e2 : xft (30 + b') j = (bif Nat.beq (xft0 b' j).1 0 then (0, 0) else bif Nat.beq (xft0 b' j).1 4 then (4, 0) else (3, 0)) := by
          unfold xft
          have e : Nat.blt (30 + b') 30 = false := by
            rw [Bool.eq_false_iff]; intro h; rw [Nat.blt_eq] at h; omega
          have e2 : 30 + b' - 30 = b' := by omega
          simp only [e, cond_false, e2]
        unfold xget
        rw [e1] at q3 ⊢
        rw [e2]
        have ht := x_tok b' hb11 j hj
        generalize xft0 b' j = q at q3 ht ⊢
        obtain ⟨t, off⟩ := q
        dsimp only at q3 ht ⊢
        have ht5 : t = 0 ∨ t = 1 ∨ t = 2 ∨ t = 3 ∨ t = 4 := by
          revert ht; unfold xtok; split <;> simp_all
        rcases ht5 with rfl | rfl | rfl | rfl | rfl
        · rfl
        · show Sum.inr (xref (S.2.2.2 k (j : Int))) = Sum.inr (some (k + off))
          rw [q3.1 rfl, xref_nat]
        · show Sum.inr (xref (S.2.2.2 k (j : Int))) = Sum.inr (some off)
          rw [q3.2 rfl, xref_nat]
        · rfl
        · rfl
    · cases hsim
  | _ => cases hsim
end SIM
