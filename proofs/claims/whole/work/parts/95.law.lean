/-! THE CLAIM OUT OF ONE WALK OF THE LAW'S BODY. Your part is whole_start (and what it stands on); all else here is the same for every law, but numbers. -/
def R_law : String := "MatchForgeLaw"
def lw_P (b : Addr) (xs : List Int32) (args : Array Value) (s : State) : Prop := args = #[.ref b] ∧ s.IntsAt b xs ∧ xs.length ≤ 3584 ∧ (Jvm.Cond.and given_1 narrow_1).before args s = true
def lw_Q (_ : Array Value) (s : State) (o : Outcome) (t : State) : Prop := o = .returned (some (.int 1)) ∧ Framed s o t [] 600000 7302250
def lw_Z (below : List Frame) (a : Array Value) (s : State) : State → Prop := fun t => ∃ o, t.status = .running ∧ Ended t below o ∧ lw_Q a s o t
/-- the law's own end, with 1 on the stack, nothing written that was there before, its room as the claim has it -/
theorem lw_ret {p : Program} {l : Launch} {e : Env} {s : State} {m : MethodId} {below : List Frame} {meth : Method} {c : Code} {b : Nat} (hx : p.tables.exec = Jvm.exec) (hb : c.code = code) (hr : meth.sig.returnType = ret) (hlocks : meth.locks = false) {pc : Nat} {H : Heap} {ls : Array Slot} (hdg : decode code pc = .ok (.ireturn, 1)) : W p l e room_1 s m #[Value.ref b] below meth c H [] 600000 7302250 (lw_Z below #[Value.ref b] s) (F0 m pc ls [.int 1]) := by
  intro T hT X
  obtain ⟨fs, hret, hrun, hended, hW, hframe⟩ := X.leave (v := some (.int 1)) (hlocks := hlocks) (fun h => by rw [hr] at h; cases h)
  have hmeth' : T.vm.method? m = some meth := X.method'
  refine ⟨T.setFrames fs, ?_, .returned (some (.int 1)), hrun, hended, rfl, ⟨_, rfl⟩, hW, hframe⟩
  jvm_step X.here [X.here.top, hx, hb, hdg, hmeth', hr, ret, narrow_b1]
  (try refine ⟨rfl, ?_⟩); (try refine ⟨rfl, ?_⟩)
  first | (intro acts; rw [hret _ acts rfl rfl rfl]) | rw [hret _ _ rfl rfl rfl]
  exact Steps.refl _
/-- what holds at the law's entry: the machine, the code, the tables' words (any of lw_tbl by 'hts w (by decide +kernel)'), the script of L ints xs at the cell b, what the Statement gives of the start (any of its parts by flat_of_before) -/
def lw_At (p : Program) (s : State) (m : MethodId) (meth : Method) (c : Code) (b L : Nat) (xs : Nat → Int32) : Prop :=
  p.tables.exec = Jvm.exec ∧ c.code = code ∧ meth.sig.returnType = ret ∧ c.maxLocals = 4 ∧ s.vm.findClass R_law = some m.cls ∧ (∀ w ∈ lw_tbl, w.before #[Value.ref b] s = true) ∧ va_X b L xs s s.heap ∧ b < s.heap.size ∧ meth.locks = false ∧ (Jvm.Cond.and given_1 narrow_1).before #[Value.ref b] s = true
/-- the small machine at the law's start -/
def xS0 (L : Nat) (xs : Nat → Int32) : xS := (1, 0, fun k => if k = 0 then (5, L) else (0, 0), fun k i => if k = 0 then (xs i.toNat).toInt else 0)
def xQlaw : xV → xS → Prop := fun r S => r = .inl 1 ∧ S.1 ≤ 600001 ∧ S.2.1 ≤ 7302250
theorem x_known {ws : List Cond} {s : State} {args : Array Value} (hts : ∀ w ∈ lw_tbl, w.before args s = true) : ∃ (dC : Nat → ClassId) (dI : Nat → Nat → Nat) (aC : Nat → ClassId), xKK dC dI aC s := by
  have hk : ∀ c, ∃ (q : ClassId × (Nat → Nat)), c < 11 → u_Kn s (xRX c) (xTX c) (xNf c) q.1 q.2 := by
    intro c
    by_cases hc : c < 11
    · have hi : ∃ n, (Cond.instantiable (xRX c) n).before args s = true := by
        match c, hc with
        | 0, _ => exact ⟨_, hts (.instantiable RX0 (xNf 0)) (by decide +kernel)⟩
        | 1, _ => exact ⟨_, hts (.instantiable RX1 (xNf 1)) (by decide +kernel)⟩
        | 2, _ => exact ⟨_, hts (.instantiable RX2 (xNf 2)) (by decide +kernel)⟩
        | 3, _ => exact ⟨_, hts (.instantiable RX3 (xNf 3)) (by decide +kernel)⟩
        | 4, _ => exact ⟨_, hts (.instantiable RX4 (xNf 4)) (by decide +kernel)⟩
        | 5, _ => exact ⟨_, hts (.instantiable RX5 (xNf 5)) (by decide +kernel)⟩
        | 6, _ => exact ⟨_, hts (.instantiable RX6 (xNf 6)) (by decide +kernel)⟩
        | 7, _ => exact ⟨_, hts (.instantiable RX7 (xNf 7)) (by decide +kernel)⟩
        | 8, _ => exact ⟨_, hts (.instantiable RX8 (xNf 8)) (by decide +kernel)⟩
        | 9, _ => exact ⟨_, hts (.instantiable RX9 (xNf 9)) (by decide +kernel)⟩
        | 10, _ => exact ⟨_, hts (.instantiable RX10 (xNf 10)) (by decide +kernel)⟩
        | n + 11, h => exact absurd h (by omega)
      obtain ⟨n, hi⟩ := hi
      obtain ⟨cC, iS, h⟩ := u_known (T := xTX c) (N := xNf c) hts (fun w hw => xG_tbl (x_ws c hc w hw)) hi
      exact ⟨(cC, iS), fun _ => h⟩
    · exact ⟨(0, fun _ => 0), fun h => absurd h hc⟩
  have harr : ∀ ty : FieldType, (Cond.arrayClass ty).before args s = true → (∀ C, ty ≠ .object C) → ∃ cA, ArrOfT s cA ty ∧ va_RA s cA ty := by
    intro ty h hno
    obtain ⟨cA, kA, comp, h1, h2, h3⟩ := Cond.arrayClass_spec h
    refine ⟨cA, fun n z => ⟨fun k h => (by cases h), kA, h2, comp, h3⟩, ?_⟩
    cases ty <;> first | exact h1 | exact absurd rfl (hno _)
  obtain ⟨a1, h1⟩ := harr .int (hts (.arrayClass .int) (by decide +kernel)) (fun _ h => by cases h)
  obtain ⟨a2, h2⟩ := harr .boolean (hts (.arrayClass .boolean) (by decide +kernel)) (fun _ h => by cases h)
  obtain ⟨a3, h3⟩ := harr .short (hts (.arrayClass .short) (by decide +kernel)) (fun _ h => by cases h)
  have hao : (Cond.arrayOver (.object "MatchForge$Match")).before args s = true := hts _ (by decide +kernel)
  obtain ⟨comp, a4, k4, g1, -, g3, g4, g5⟩ := Cond.arrayOver_spec hao
  refine ⟨fun c => (Classical.choose (hk c)).1, fun c => (Classical.choose (hk c)).2, fun t => if t = 1 then a1 else if t = 2 then a2 else if t = 3 then a3 else a4, ⟨fun c q hq => ?_, fun k q hq => ?_⟩, va_Nw.of rfl (hts _ (by decide +kernel)), va_Nw.of rfl (hts _ (by decide +kernel)), va_AO.of hao⟩
  · have hc : c < 11 := by
      have := (List.getElem?_eq_some_iff.mp hq).1
      simpa [vwCl] using this
    have e := (x_cl c hc).symm.trans hq
    cases e
    exact Classical.choose_spec (hk c) hc
  · match k, hq with
    | 0, hq => cases hq; exact h1
    | 1, hq => cases hq; exact h2
    | 2, hq => cases hq; exact h3
    | 3, hq =>
      cases hq
      exact ⟨fun n z => ⟨fun k h => (by cases h), k4, g3, comp, g4⟩, k4, comp, g3, g4, g1, g5⟩
    | k + 4, hq => simp [xtys] at hq
set_option maxHeartbeats 4000000 in
/-- the law's walk, out of the small machine's run of it -/
theorem x_law {p : Program} {e : Env} {s : State} {m : MethodId} {below : List Frame} {meth : Method} {c : Code} (l : Launch) {b L : Nat} {xs : Nat → Int32} (C0 : lw_At p s m meth c b L xs)
    (hrun : xGo xft xNf xmt xtr 2046 xlaw 0 [some (.inr (some 0)), none, none, none] [] (xS0 L xs) xQlaw) : W p l e room_1 s m #[Value.ref b] below meth c s.heap [] 0 0 (lw_Z below #[Value.ref b] s) (entryFrame m ([Value.ref b] : List Value).toArray 4) := by
  obtain ⟨hx, hb, hr, hml, hown, hts, hX, hbl, hlocks, hgv⟩ := id C0
  obtain ⟨dC, dI, aC, hK⟩ := x_known (ws := lw_tbl) hts
  obtain ⟨n, h⟩ := hrun
  have hR : xRep b s.heap.size dC dI aC s (xS0 L xs) s.heap := by
    refine ⟨⟨rfl, Nat.zero_lt_one, hbl⟩, ⟨rfl, ?_⟩, fun k h0 h1 => ?_⟩
    · have e1 : (fun j : Nat => Int32.ofInt ((xS0 L xs).2.2.2 0 (j : Int))) = xs := by
        funext j
        show Int32.ofInt (if (0 : Nat) = 0 then (xs ((j : Int).toNat)).toInt else 0) = xs j
        rw [if_pos rfl, Int32.ofInt_toInt]
        rfl
      rw [e1]
      exact hX
    · exact absurd (show k < 1 from h1) (by omega)
  have F : xFx p room_1 s m #[Value.ref b] meth c (xcc xlaw) (xown xlaw) (xmt xlaw).2.2.2 (decide ((xy xlaw).name = "<init>")) dC dI aC :=
    ⟨hx, hb, hml, hown, fun w hw => hts w (xG_tbl hw), hK, fun hi => absurd hi (by decide +kernel), by decide, by decide⟩
  have key := xloop_snd (p := p) (l := l) (e := e) (R := room_1) (s := s) (m := m) (args := #[Value.ref b]) (below := below) (meth := meth) (c := c) (Qw := lw_Z below #[Value.ref b] s) (b := b) (B := s.heap.size) (dC := dC) (dI := dI) (aC := aC) (S0 := xS0 L xs) (d := 2046) (Qx := xQlaw) (C := xcall xft xNf xmt xtr 2046) xokM_law.1 F (fun a as S => xcall_pt 2046 a as S)
    (fun a as S Q hxm hl hc => by
      obtain ⟨r1, S1, k1, k2, k3, k4⟩ := xcall_pt 2046 a as S Q hc
      exact ⟨r1, S1, k1, k2, k3, xmeth_snd xokM_ok 2046 a as S S1 r1 hxm hl (k4 _ ⟨rfl, rfl⟩)⟩)
    (fun a ha as S Q => xcall_none 2046 a ha as S Q) ⟨by decide, by decide⟩
    (fun r S2 hq => by
      obtain ⟨-, q1, q2⟩ := hq
      refine ⟨?_, ?_⟩
      · show S2.1 - 1 ≤ 600000; omega
      · show S2.2.1 - 0 ≤ 7302250; omega)
    (fun pc ls x S2 hdg hne h2 hq => by
      obtain ⟨q0, q1, q2⟩ := hq
      cases q0
      intro g1 g2 lsA H locs hl hR2 hS2
      refine va_forget (fun q hq => hS2.2.2 q hq) (W.widen (k := 600000) (n := 7302250) (by show S2.1 - 1 ≤ 600000; omega) (by show S2.2.1 - 0 ≤ 7302250; omega) ?_)
      exact lw_ret hx hb hr hlocks hdg)
    (fun pc ls S2 hdg h0 hq => absurd h0 (by decide +kernel))
    (fun pc ls r S2 hdg h0 hq => absurd h0 (by decide +kernel))
    n 0 [some (.inr (some 0)), none, none, none] [] (xS0 L xs) (by decide +kernel) h
  have hk2 := key (Nat.le_refl _) (Nat.le_refl _) _ s.heap [] (x_entry (xad b s.heap.size) [.inr (some 0)] (n := 4) (by decide)) hR va_S.rf
  rw [lg_entry_eq]
  rw [Nat.sub_self, Nat.sub_self] at hk2
  exact hk2
