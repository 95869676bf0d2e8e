/-! ===== a whole method ===== -/
/-- what the answer's kind has to do with the return type -/
def xrk (rk : Nat) (ret : Option FieldType) : Prop := (rk = 0 → ret = none) ∧ (rk = 1 → ret = some .int) ∧ (rk = 2 → ret = some .boolean) ∧ (rk = 3 → ret = some (.array .int)) ∧ rk ≤ 3
def xokT (cc : ByteArray) (own : String) (nL : Nat) (init : Bool) (rk : Nat) (tl : List (Nat × List xI)) : Prop := ∀ q ∈ tl, xpc q.2 0 = q.1 ∧ xokL cc own nL init rk q.2
/-- a method's stretches and tables are in order -/
def xokM (mu : Nat) : Prop := xokT (xcc mu) (xown mu) (xmt mu).2.2.2 (decide ((xy mu).name = "<init>")) (xmt mu).2.1 (xtl mu) ∧ (xy mu).cls = xown mu ∧ (xmt mu).1 ≤ (xmt mu).2.2.2 ∧ xrk (xmt mu).2.1 (xret mu)
theorem xfind_ok {P : Nat → List xI → Prop} : ∀ (tl : List (Nat × List xI)) (pc : Nat), (∀ q ∈ tl, P q.1 q.2) → xfind tl pc = [] ∨ P pc (xfind tl pc) := by
  intro tl
  induction tl with
  | nil => intro pc _; exact Or.inl rfl
  | cons q r ih =>
    intro pc h
    obtain ⟨p, L⟩ := q
    simp only [xfind]
    cases hb : Nat.beq pc p with
    | true =>
      have e : pc = p := Nat.eq_of_beq_eq_true hb
      subst e
      exact Or.inr (h (pc, L) List.mem_cons_self)
    | false => exact ih pc (fun q hq => h q (List.mem_cons_of_mem _ hq))
section METH
variable {p : Program} {l : Launch} {e : Env} {R : Room} {s : State} {m : MethodId} {args : Array Value} {below : List Frame} {meth : Method} {c : Code} {Qw : State → Prop}
variable {b B : Nat} {dC : Nat → ClassId} {dI : Nat → Nat → Nat} {aC : Nat → ClassId} {S0 : xS} {d : Nat}
theorem xcall_none (d mu : Nat) (h : xall ≤ mu) (as : List xV) (S : xS) (Q : xV → xS → Prop) : ¬ xcall xft xNf xmt xtr d mu as S Q := by
  have e : ∀ pc, xtr mu pc = [] := by
    intro pc
    unfold xtr xtl
    have hb : Nat.blt mu xall = false := by
      rw [Bool.eq_false_iff]; intro q; rw [Nat.blt_eq] at q; omega
    unfold xall at hb
    simp only [hb, cond_false, xfind]
  cases d with
  | zero => exact id
  | succ d =>
    rintro ⟨n, h⟩
    cases n with
    | zero => exact h
    | succ n =>
      simp only [xloop, e, xgo] at h
/-- the stretches of a method, fuel by fuel -/
theorem xloop_snd {cc : ByteArray} {own : String} {nL rk mu : Nat} {init : Bool} {Qx : xV → xS → Prop} {C : Nat → List xV → xS → (xV → xS → Prop) → Prop} (hok : xokT cc own nL init rk (xtl mu)) (F : xFx p R s m args meth c cc own nL init dC dI aC)
    (hpt : ∀ a as S, xPt S (C a as S)) (hC : ∀ a as S Q, xmw a → as.length = (xmt a).1 → C a as S Q → ∃ r S', Q r S' ∧ S.1 ≤ S'.1 ∧ S.2.1 ≤ S'.2.1 ∧ xMet l b B dC dI aC d a as S r S') (hCn : ∀ a, xall ≤ a → ∀ as S Q, ¬ C a as S Q) (hRm : d + 1 ≤ R.frames ∧ 41 * (d + 1) ≤ R.locals)
    (hQb : ∀ r S, Qx r S → S.1 - S0.1 ≤ R.cells ∧ S.2.1 - S0.2.1 ≤ R.slots)
    (hQi : ∀ pc ls x S, decode cc pc = .ok (.ireturn, 1) → (rk ≠ 0 ∧ rk ≠ 3) → (rk = 2 → x = 0 ∨ x = 1) → Qx (.inl x) S → xWat p l e R s m args below meth c Qw b B dC dI aC nL S0 pc ls [.inl x] S)
    (hQv : ∀ pc ls S, decode cc pc = .ok (.return_, 1) → rk = 0 → Qx (.inl 0) S → xWat p l e R s m args below meth c Qw b B dC dI aC nL S0 pc ls [] S)
    (hQa : ∀ pc ls r S, decode cc pc = .ok (.areturn, 1) → rk = 3 → Qx (.inr r) S → xWat p l e R s m args below meth c Qw b B dC dI aC nL S0 pc ls [.inr r] S) :
    ∀ (n pc : Nat) (ls : xL) (st : List xV) (S : xS), ls.length = nL → xloop xft xNf xmt xtr C mu Qx n pc ls st S → xWat p l e R s m args below meth c Qw b B dC dI aC nL S0 pc ls st S := by
  intro n
  induction n with
  | zero => intro pc ls st S _ h; exact h.elim
  | succ n ih =>
    intro pc ls st S hl h
    have h9 : xgo xft xNf xmt C (fun pc ls st S => xloop xft xNf xmt xtr C mu Qx n pc ls st S) Qx (xtr mu pc) 0 ls st S := h
    rcases xfind_ok (P := fun pc L => xpc L 0 = pc ∧ xokL cc own nL init rk L) (xtl mu) pc hok with e1 | ⟨e1, e2⟩
    · have e0 : xtr mu pc = [] := e1
      rw [e0] at h9
      simp only [xgo] at h9
    · have hb : ∀ L sk ls st S, xgo xft xNf xmt C (fun pc ls st S => xloop xft xNf xmt xtr C mu Qx n pc ls st S) Qx L sk ls st S → S.1 - S0.1 ≤ R.cells ∧ S.2.1 - S0.2.1 ≤ R.slots := by
        intro L sk ls st S h
        obtain ⟨r, S', k1, k2, k3, -⟩ := xgo_pt (K := fun Q pc ls st S => xloop xft xNf xmt xtr C mu Q n pc ls st S) hpt (fun pc ls st S => xloop_pt hpt mu n pc ls st S) L sk ls st S Qx h
        obtain ⟨q1, q2⟩ := hQb r S' k1
        omega
      have h8 := xgo_snd (Qx := Qx) (K := fun pc ls st S => xloop xft xNf xmt xtr C mu Qx n pc ls st S) F hC hCn hRm hb (fun pc ls st S hl h => ih pc ls st S hl h) hQi hQv hQa (xtr mu pc) e2 0 ls st S hl h9
      have e3 : xpc (xtr mu pc) 0 = pc := e1
      rw [e3] at h8
      exact h8
theorem x_sl (ad : Nat → Nat) (as : List xV) : lg_sl (as.map (xcv ad)) = as.map (fun v => Slot.val (xcv ad v)) := by
  induction as with
  | nil => rfl
  | cons v t ih =>
    unfold lg_sl at ih ⊢
    rw [List.map_cons, List.flatMap_cons, ih]
    have : ¬ (xcv ad v).category = 2 := by rw [xcv_cat]; omega
    rw [if_neg this]
    rfl
theorem x_entry (ad : Nat → Nat) (as : List xV) {n : Nat} (h : as.length ≤ n) : xloc ad ((lg_sl (as.map (xcv ad)) ++ List.replicate (n - (lg_sl (as.map (xcv ad))).length) Slot.unset).toArray) n (xent as n) := by
  have hl : (lg_sl (as.map (xcv ad))).length = as.length := by rw [x_sl, List.length_map]
  have h1 := lv_entry (as.map (xcv ad)) (n := n) (by rw [hl]; exact h)
  refine ⟨h1.1, h1.2.1, by unfold xent; simp; omega, fun i v hi => ?_⟩
  unfold xent at hi
  by_cases hlt : i < as.length
  · rw [List.getElem?_append_left (by simpa using hlt), List.getElem?_map] at hi
    obtain ⟨w, hw, e⟩ := Option.map_eq_some_iff.mp hi
    cases e
    rw [List.getElem?_toArray, List.getElem?_append_left (by rw [hl]; exact hlt), x_sl, List.getElem?_map, hw]
    rfl
  · rw [List.getElem?_append_right (by simp; omega)] at hi
    have := List.mem_replicate.mp (List.mem_of_getElem? hi)
    cases this.2
/-- EVERY METHOD of the small machine meets its contract -/
theorem xmeth_snd (hM : ∀ mu, mu < xlaw → xokM mu) : ∀ (d mu : Nat) (as : List xV) (S S' : xS) (r : xV), xmw mu → as.length = (xmt mu).1 → xcall xft xNf xmt xtr d mu as S (fun r2 S2 => r2 = r ∧ S2 = S') → xMet l b B dC dI aC d mu as S r S' := by
  intro d
  induction d with
  | zero => intro mu as S S' r _ _ h; exact h.elim
  | succ d ih =>
    intro mu as S S' r hw hla h
    obtain ⟨n, h⟩ := h
    obtain ⟨hok, hcls, hnm, hrk⟩ := hM mu hw.2.2.2.2.2
    refine Met.ofW (cc := xcc mu) (maxL := (xmt mu).2.2.2) (ret := xret mu) hw.2.2.2.2.1 rfl ?_
    intro p e s m args below meth c s₁ Bd hml hv
    obtain ⟨rfl, hR, hK⟩ := hv
    have hts0 := atoms_spec (ws := xws mu) Bd.pre
    have hts : ∀ w ∈ xG, w.before (as.map (xcv (xad b B))).toArray s = true := fun w hw => hts0 w (List.mem_cons_of_mem _ hw)
    have hown : s.vm.findClass (xown mu) = some m.cls := by rw [← hcls]; exact findClass_of_methodNamed Bd.named
    have hlocks := Bd.notSynchronized
    have hr := Bd.returns
    have F : xFx p (xrm (d + 1) S S') s m (as.map (xcv (xad b B))).toArray meth c (xcc mu) (xown mu) (xmt mu).2.2.2 (decide ((xy mu).name = "<init>")) dC dI aC :=
      ⟨Bd.exec, Bd.bytes, hml, hown, hts, hK, fun hi => by rw [(name_of_methodNamed Bd.named Bd.method).1]; exact of_decide_eq_true hi, by show 1 ≤ d + 1; omega, by show 41 ≤ 41 * (d + 1); omega⟩
    have h0 := xcall_pt (T := xft) (N := xNf) (mt := xmt) (tr := xtr) (d + 1) mu as S _ ⟨n, h⟩
    obtain ⟨r9, S9, ⟨rfl, rfl⟩, hle1, hle2, -⟩ := h0
    have key := xloop_snd (p := p) (l := l) (e := e) (R := xrm (d + 1) S S9) (s := s) (m := m) (args := (as.map (xcv (xad b B))).toArray) (below := below) (meth := meth) (c := c) (Qw := MQ below (xQc b B dC dI aC (xmt mu).2.1 r9 S9) (as.map (xcv (xad b B))).toArray s (S9.1 - S.1) (S9.2.1 - S.2.1) (fun q => B ≤ q))
      (b := b) (B := B) (dC := dC) (dI := dI) (aC := aC) (S0 := S) (d := d) (Qx := fun r2 S2 => r2 = r9 ∧ S2 = S9) (C := xcall xft xNf xmt xtr d) hok F (fun a as S => xcall_pt d a as S)
      (fun a as S Q hxm hl hc => by
        obtain ⟨r1, S1, k1, k2, k3, k4⟩ := xcall_pt d a as S Q hc
        exact ⟨r1, S1, k1, k2, k3, ih a as S S1 r1 hxm hl (k4 _ ⟨rfl, rfl⟩)⟩)
      (fun a ha as S Q => xcall_none d a ha as S Q) ⟨Nat.le_refl _, Nat.le_refl _⟩
      (fun r2 S2 hq => by obtain ⟨-, rfl⟩ := hq; exact ⟨Nat.le_refl _, Nat.le_refl _⟩)
      (fun pc ls x S2 hdg hne h2 hq => by
        obtain ⟨rfl, rfl⟩ := hq
        intro g1 g2 lsA H locs hl hR2 hS2
        have hty : ∃ ty, xret mu = some ty ∧ narrow ty (.int (Int32.ofInt x)) = .int (Int32.ofInt x) := by
          obtain ⟨-, q1, q2, -, q4⟩ := hrk
          rcases (show (xmt mu).2.1 = 1 ∨ (xmt mu).2.1 = 2 by omega) with e1 | e1
          · exact ⟨_, q1 e1, rfl⟩
          · refine ⟨_, q2 e1, ?_⟩
            rcases h2 e1 with rfl | rfl <;> rfl
        obtain ⟨ty, ht1, ht2⟩ := hty
        have hrv : xrv (xad b B) (xmt mu).2.1 (.inl x) = some (.int (Int32.ofInt x)) := by
          unfold xrv
          have := hne.1
          cases hk : (xmt mu).2.1 with
          | zero => omega
          | succ k => rfl
        exact W.zret Bd.exec Bd.bytes (hr.trans ht1) ht2 (fun t ht hW => ⟨by rw [hrv], by rw [ht]; exact hR2.moved hW.alike, hS2.F ht⟩) hS2.2.2 hdg)
      (fun pc ls S2 hdg h0 hq => by
        obtain ⟨hr0, rfl⟩ := hq
        intro g1 g2 lsA H locs hl hR2 hS2
        have hrv : xrv (xad b B) (xmt mu).2.1 r9 = none := by (unfold xrv; rw [h0]; rfl)
        exact W.vret Bd.exec Bd.bytes (hr.trans (hrk.1 h0)) (fun t ht hW => ⟨by rw [hrv], by rw [ht]; exact hR2.moved hW.alike, hS2.F ht⟩) hS2.2.2 hdg)
      (fun pc ls r2 S2 hdg h3 hq => by
        obtain ⟨rfl, rfl⟩ := hq
        intro g1 g2 lsA H locs hl hR2 hS2
        have hrv : xrv (xad b B) (xmt mu).2.1 (.inr r2) = some (va_rf (r2.map (xad b B))) := by (unfold xrv; rw [h3]; rfl)
        exact W.aret Bd.exec Bd.bytes (hr.trans (hrk.2.2.2.1 h3)) (Or.inr ⟨_, rfl⟩) (by cases r2 <;> first | exact Or.inl rfl | exact Or.inr ⟨_, rfl⟩) (fun t ht hW => ⟨by (rw [hrv]; rfl), by rw [ht]; exact hR2.moved hW.alike, hS2.F ht⟩) hS2.2.2 hdg)
      n 0 (xent as (xmt mu).2.2.2) [] S (by unfold xent; simp; omega) h
    have hk2 := key (Nat.le_refl _) (Nat.le_refl _) _ s.heap [] (x_entry (xad b B) as (by omega)) hR va_S.rf
    rw [lg_entry_eq]
    rw [Nat.sub_self, Nat.sub_self] at hk2
    exact hk2
end METH
