/-! ===== the start: the run over lists is the small machine's ===== -/
section CON2
variable {H : Nat → Nat × Nat} {M : xM} {c c' : zT}
theorem zsim_ok {ins : Instr} {a b : Nat} {ls ls' : xL} {st st' : List xV} (h : zsim ins a b ls st c = some (ls', st', c')) : ∃ g, xsim xft xNf ins a b ls st (zal H M c) = some (g, ls', st', zal H M c') ∧ ∀ p, g = some p → p := by
  unfold zsim at h
  split at h
  · cases h; exact ⟨none, rfl, fun p z => by cases z⟩
  · cases h; exact ⟨none, rfl, fun p z => by cases z⟩
  · cases h; exact ⟨none, rfl, fun p z => by cases z⟩
  · cases h; exact ⟨none, rfl, fun p z => by cases z⟩
  · cases h; exact ⟨none, rfl, fun p z => by cases z⟩
  · split at h
    · rename_i hl; cases h; exact ⟨none, by simp only [xsim, hl], fun p z => by cases z⟩
    · cases h
  · split at h
    · rename_i hl; cases h; exact ⟨none, by simp only [xsim, hl], fun p z => by cases z⟩
    · cases h
  · split at h
    · cases h; exact ⟨none, rfl, fun p z => by cases z⟩
    · cases h
  · split at h
    · cases h; exact ⟨none, rfl, fun p z => by cases z⟩
    · cases h
  · split at h
    · rename_i hl; cases h; exact ⟨none, by simp only [xsim, hl], fun p z => by cases z⟩
    · cases h
  · split at h
    · cases h; exact ⟨none, rfl, fun p z => by cases z⟩
    · cases h
  · split at h
    · split at h
      · rename_i ho hg
        cases h
        refine ⟨some (0 < _ ∧ xob (zal H M c) _ a), ?_, fun p z => by cases z; exact zob_ok ho⟩
        show some (_, ls, xget xft a b _ (zMm c.2.2.2 M) :: _, _) = _
        rw [zgt_ok hg]
      · cases h
    · cases h
  · split at h
    · rename_i v k st0
      split at h
      · rename_i x ho hg
        cases h
        obtain ⟨g, hx, hp⟩ := zpt_ok (H := H) (M := M) hg
        cases g with
        | none => exact ⟨some (0 < k ∧ xob (zal H M c) k a), by simp only [xsim, hx]; rfl, fun p z => by cases z; exact zob_ok ho⟩
        | some q => exact ⟨some (0 < k ∧ xob (zal H M c) k a ∧ q), by simp only [xsim, hx]; rfl, fun p z => by cases z; exact ⟨(zob_ok (H := H) (M := M) ho).1, (zob_ok ho).2, hp q rfl⟩⟩
      · cases h
    · cases h
  · split at h
    · split at h
      · rename_i hz
        cases h
        exact ⟨_, rfl, fun p z => by cases z; exact zin_ok hz⟩
      · cases h
    · cases h
  · split at h
    · rename_i k st0
      split at h
      · rename_i n hd hz
        cases h
        rw [Bool.and_eq_true] at hd
        have h0 : 0 < k := of_decide_eq_true hd.1
        have h1 : k < c.1 := of_decide_eq_true hd.2
        have e1 : (zal H M c).2.2.1 k = (1, n) := zgh_ok hz
        refine ⟨some (k < (zal H M c).1 ∧ ((zal H M c).2.2.1 k).1 = (if k = 0 then 5 else 1)), ?_, fun p z => by cases z; exact ⟨h1, by rw [e1, if_neg (by omega)]⟩⟩
        show some (_, ls, Sum.inl ((((zal H M c).2.2.1 k).2 : Nat) : Int) :: _, _) = _
        rw [e1]
      · cases h
    · cases h
  · split at h
    · split at h
      · rename_i hz
        cases h
        exact ⟨_, rfl, fun p z => by cases z; exact of_decide_eq_true hz⟩
      · cases h
    · cases h
  · split at h
    · split at h
      · rename_i hz
        cases h
        exact ⟨_, rfl, fun p z => by cases z; exact of_decide_eq_true hz⟩
      · cases h
    · cases h
  · cases h; exact ⟨none, rfl, fun p z => by cases z⟩
  · split at h
    · split at h
      · rename_i hz
        cases h
        exact ⟨_, rfl, fun p z => by cases z; exact of_decide_eq_true hz⟩
      · cases h
    · cases h
  · split at h
    · split at h
      · rename_i hz
        cases h
        rw [Bool.and_eq_true] at hz
        exact ⟨_, rfl, fun p z => by cases z; exact ⟨(zob_ok (H := H) (M := M) hz.1).1, (zob_ok hz.1).2, zsl_ok hz.2⟩⟩
      · cases h
    · cases h
  · cases h
abbrev zE : Type := (xV × zT) ⊕ (Nat × xL × List xV × zT)
def zrg (x : Int) : Bool := decide (-2147483648 ≤ x ∧ x ≤ 2147483647)
def zc : ClassFile.Cond → Int → Int → Bool
  | .eq, x, y => decide (x = y)
  | .ne, x, y => decide (¬ x = y)
  | .lt, x, y => decide (x < y)
  | .ge, x, y => decide (y ≤ x)
  | .gt, x, y => decide (y < x)
  | .le, x, y => decide (x ≤ y)
theorem zc_t {o : ClassFile.Cond} {x y : Int} (h : zc o x y = true) : xc o x y := by
  cases o
  · exact (of_decide_eq_true h : x = y)
  · exact (of_decide_eq_true h : ¬ x = y)
  · exact (of_decide_eq_true h : x < y)
  · exact (of_decide_eq_true h : y ≤ x)
  · exact (of_decide_eq_true h : y < x)
  · exact (of_decide_eq_true h : x ≤ y)
theorem zc_f {o : ClassFile.Cond} {x y : Int} (h : zc o x y = false) : ¬ xc o x y := by
  cases o
  · exact (of_decide_eq_false h : ¬ (x = y))
  · exact (of_decide_eq_false h : ¬ (¬ x = y))
  · exact (of_decide_eq_false h : ¬ (x < y))
  · exact (of_decide_eq_false h : ¬ (y ≤ x))
  · exact (of_decide_eq_false h : ¬ (y < x))
  · exact (of_decide_eq_false h : ¬ (x ≤ y))
def zrv (c : zT) (a : Nat) (as : List xV) : Bool := if a = 1000 then true else match as with
  | .inr (some k) :: _ => zob c k a
  | _ => false
theorem zrv_ok {a : Nat} {as : List xV} (h : zrv c a as = true) : xrecv (zal H M c) a as := by
  unfold zrv at h
  by_cases z : a = 1000
  · subst z; exact True.intro
  · rw [if_neg z] at h
    rcases as with _ | ⟨x | (_ | k), tl⟩
    · cases h
    · cases h
    · cases h
    · have hk := zob_ok (H := H) (M := M) h
      unfold xrecv
      split
      · trivial
      · rename_i e1
        cases e1
        exact hk
      · rename_i hx
        exact absurd rfl (hx _ _)
/-- one instruction, outright: on in the stretch, or out of it -/
def zcl (C : Nat → List xV → zT → Option (xV × zT)) (a : Nat) (ls : xL) (st : List xV) (c : zT) : Option ((Nat × xL × List xV × zT) ⊕ zE) := match decide ((xmt a).1 ≤ st.length ∧ st.length ≤ (xmt a).1 + 8) && zrv c (xmt a).2.2.1 (st.take (xmt a).1).reverse, C a (st.take (xmt a).1).reverse c with
  | true, some (r, c') => some (.inl (0, ls, (match (xmt a).2.1 with
    | 0 => st.drop (xmt a).1
    | _ => r :: st.drop (xmt a).1), c'))
  | _, _ => none
def zsm (r : Option (xL × List xV × zT)) : Option ((Nat × xL × List xV × zT) ⊕ zE) := match r with
  | some (ls, st, c) => some (.inl (0, ls, st, c))
  | none => none
def zbr (a b : Nat) (ls : xL) (st : List xV) (c : zT) : (Nat × xL × List xV × zT) ⊕ zE := match a with
  | 0 => .inl (b, ls, st, c)
  | _ => .inr (.inr (b, ls, st, c))
def zif (o : ClassFile.Cond) (a b : Nat) (ls : xL) (st : List xV) (c : zT) : Option ((Nat × xL × List xV × zT) ⊕ zE) := match st with
  | .inl y :: .inl x :: st' => match zrg x && zrg y, zc o x y with
    | true, true => some (zbr a b ls st' c)
    | true, false => some (.inl (0, ls, st', c))
    | _, _ => none
  | _ => none
def zst (C : Nat → List xV → zT → Option (xV × zT)) (pc : Nat) (ins : Instr) (a b : Nat) (ls : xL) (st : List xV) (c : zT) : Option ((Nat × xL × List xV × zT) ⊕ zE) := match ins with
  | .if_icmp o _ => zif o a b ls st c
  | .goto _ => some (zbr a b ls st c)
  | .return_ => match st with
    | [] => some (.inr (.inl (.inl 0, c)))
    | _ => none
  | .nop => match a with
    | 1 => some (.inr (.inr (pc, ls, st, c)))
    | _ => zsm (zsim .nop a b ls st c)
  | .invokespecial i => match decide (a < 1000) with
    | true => zcl C a ls st c
    | false => zsm (zsim (.invokespecial i) a b ls st c)
  | .invokestatic _ => match decide (a < 1000) with
    | true => zcl C a ls st c
    | false => none
  | ins => zsm (zsim ins a b ls st c)
/-- one stretch, outright -/
def zgo (C : Nat → List xV → zT → Option (xV × zT)) : List xI → Nat → xL → List xV → zT → Option zE
  | [], _, _, _, _ => none
  | _ :: rest, sk + 1, ls, st, c => zgo C rest sk ls st c
  | q :: rest, 0, ls, st, c => match zst C q.1 q.2.1 q.2.2.1 q.2.2.2 ls st c with
    | some (.inl (sk, ls', st', c')) => zgo C rest sk ls' st' c'
    | some (.inr r) => some r
    | none => none
/-- what the machine asks of one instruction -/
def xst (C : Nat → List xV → xS → (xV → xS → Prop) → Prop) (K : Nat → xL → List xV → xS → Prop) (Q : xV → xS → Prop) (go : Nat → xL → List xV → xS → Prop) (pc : Nat) (ins : Instr) (a b : Nat) (ls : xL) (st : List xV) (S : xS) : Prop := match xsim xft xNf ins a b ls st S with
  | some (none, ls', st', S') => go 0 ls' st' S'
  | some (some g, ls', st', S') => g ∧ go 0 ls' st' S'
  | none => xctl xmt C K Q go pc ins a b ls st S
def zto (H : Nat → Nat × Nat) (M : xM) (K : Nat → xL → List xV → xS → Prop) (Q : xV → xS → Prop) (go : Nat → xL → List xV → xS → Prop) (r : (Nat × xL × List xV × zT) ⊕ zE) : Prop := match r with
  | .inl (sk, ls, st, c) => go sk ls st (zal H M c)
  | .inr (.inl (v, c)) => Q v (zal H M c)
  | .inr (.inr (pc, ls, st, c)) => K pc ls st (zal H M c)
variable {C : Nat → List xV → xS → (xV → xS → Prop) → Prop} {Cz : Nat → List xV → zT → Option (xV × zT)} {K : Nat → xL → List xV → xS → Prop} {Q : xV → xS → Prop} {go : Nat → xL → List xV → xS → Prop}
theorem zsm_ok {ins : Instr} {pc a b : Nat} {ls : xL} {st : List xV} {r : (Nat × xL × List xV × zT) ⊕ zE} (h : zsm (zsim ins a b ls st c) = some r) (hr : zto H M K Q go r) : xst C K Q go pc ins a b ls st (zal H M c) := by
  unfold zsm at h
  split at h
  · rename_i hz
    cases h
    obtain ⟨g, hx, hp⟩ := zsim_ok (H := H) (M := M) hz
    unfold xst
    rw [hx]
    cases g with
    | none => exact hr
    | some q => exact ⟨hp q rfl, hr⟩
  · cases h
theorem zcl_ok {a : Nat} {ls : xL} {st : List xV} {r : (Nat × xL × List xV × zT) ⊕ zE} (hC : ∀ a as c r c', Cz a as c = some (r, c') → ∀ P : xV → xS → Prop, P r (zal H M c') → C a as (zal H M c) P) (h : zcl Cz a ls st c = some r) (hr : zto H M K Q go r) :
    ((xmt a).1 ≤ st.length ∧ st.length ≤ (xmt a).1 + 8 ∧ xrecv (zal H M c) (xmt a).2.2.1 (st.take (xmt a).1).reverse) ∧ C a (st.take (xmt a).1).reverse (zal H M c) (fun r S' => go 0 ls (match (xmt a).2.1 with
    | 0 => st.drop (xmt a).1
    | _ => r :: st.drop (xmt a).1) S') := by
  unfold zcl at h
  split at h
  · rename_i r0 c0 hg hz
    cases h
    rw [Bool.and_eq_true] at hg
    obtain ⟨g1, g2⟩ := hg
    have g1 := of_decide_eq_true g1
    exact ⟨⟨g1.1, g1.2, zrv_ok g2⟩, hC _ _ _ _ _ hz _ hr⟩
  · cases h
theorem zst_ok {ins : Instr} {pc a b : Nat} {ls : xL} {st : List xV} {r : (Nat × xL × List xV × zT) ⊕ zE} (hC : ∀ a as c r c', Cz a as c = some (r, c') → ∀ P : xV → xS → Prop, P r (zal H M c') → C a as (zal H M c) P) (h : zst Cz pc ins a b ls st c = some r) (hr : zto H M K Q go r) : xst C K Q go pc ins a b ls st (zal H M c) := by
  unfold zst at h
  split at h
  · unfold zif at h
    split at h
    · split at h
      · rename_i hg hc
        rw [Bool.and_eq_true] at hg
        have g1 := of_decide_eq_true hg.1
        have g2 := of_decide_eq_true hg.2
        cases h
        refine And.intro ⟨g1, g2⟩ (And.intro (fun _ => ?_) (fun z => absurd (zc_t hc) z))
        cases a with
        | zero => exact hr
        | succ n => exact hr
      · rename_i hg hc
        rw [Bool.and_eq_true] at hg
        have g1 := of_decide_eq_true hg.1
        have g2 := of_decide_eq_true hg.2
        cases h
        exact And.intro ⟨g1, g2⟩ (And.intro (fun z => absurd z (zc_f hc)) (fun _ => hr))
      · cases h
    · cases h
  · cases h
    cases a with
    | zero => exact hr
    | succ n => exact hr
  · split at h
    · cases h; exact hr
    · cases h
  · split at h
    · cases h; exact hr
    · exact zsm_ok h hr
  · split at h
    · rename_i i _ hd
      have hd := of_decide_eq_true hd
      unfold xst
      have e1 : xsim xft xNf (.invokespecial i) a b ls st (zal H M c) = none := by
        simp only [xsim]
        split
        · omega
        · rfl
      rw [e1]
      exact zcl_ok hC h hr
    · exact zsm_ok h hr
  · split at h
    · rename_i i _ hd
      have hd := of_decide_eq_true hd
      unfold xst
      have e1 : xsim xft xNf (.invokestatic i) a b ls st (zal H M c) = none := by
        simp only [xsim]
        split
        · omega
        · omega
        · omega
        · rfl
      rw [e1]
      exact zcl_ok hC h hr
    · cases h
  · exact zsm_ok h hr
theorem xgo_st0 {rest : List xI} {q : xI} {ls : xL} {st : List xV} {S : xS} (h : xst C K Q (fun sk ls st S => xgo xft xNf xmt C K Q rest sk ls st S) q.1 q.2.1 q.2.2.1 q.2.2.2 ls st S) : xgo xft xNf xmt C K Q (q :: rest) 0 ls st S := by
  obtain ⟨pc, ins, a, b⟩ := q
  exact h
theorem zgo_ok (hC : ∀ a as c r c', Cz a as c = some (r, c') → ∀ P : xV → xS → Prop, P r (zal H M c') → C a as (zal H M c) P) : ∀ (L : List xI) (sk : Nat) (ls : xL) (st : List xV) (c : zT) (r : zE), zgo Cz L sk ls st c = some r → zto H M K Q (fun _ _ _ _ => False) (.inr r) → xgo xft xNf xmt C K Q L sk ls st (zal H M c) := by
  intro L
  induction L with
  | nil => intro sk ls st c r h; simp [zgo] at h
  | cons q rest ih =>
    intro sk ls st c r h hr
    cases sk with
    | succ sk => exact ih sk ls st c r h hr
    | zero =>
      refine xgo_st0 ?_
      simp only [zgo] at h
      split at h
      · rename_i sk ls' st' c' hz
        exact zst_ok hC hz (ih sk ls' st' c' r h hr)
      · rename_i r0 hz
        have er : r0 = r := Option.some.inj h
        rw [← er] at hr
        refine zst_ok (r := .inr r0) hC hz ?_
        rcases r0 with ⟨v, c'⟩ | ⟨pc, ls', st', c'⟩
        · exact hr
        · exact hr
      · cases h
def zloop (C : Nat → List xV → zT → Option (xV × zT)) (mu : Nat) : Nat → Nat → xL → List xV → zT → Option (xV × zT)
  | 0, _, _, _, _ => none
  | n + 1, pc, ls, st, c => match zgo C (xtr mu pc) 0 ls st c with
    | some (.inl r) => some r
    | some (.inr (pc', ls', st', c')) => zloop C mu n pc' ls' st' c'
    | none => none
def zcall : Nat → Nat → List xV → zT → Option (xV × zT)
  | 0, _, _, _ => none
  | d + 1, mu, as, c => zloop (zcall d) mu 40 0 (xent as (xmt mu).2.2.2) [] c
theorem zcall_ok : ∀ (d : Nat) (mu : Nat) (as : List xV) (c : zT) (r : xV) (c' : zT), zcall d mu as c = some (r, c') → ∀ P : xV → xS → Prop, P r (zal H M c') → xcall xft xNf xmt xtr d mu as (zal H M c) P := by
  intro d
  induction d with
  | zero => intro mu as c r c' h; simp [zcall] at h
  | succ d ih =>
    intro mu as c r c' h P hP
    have key : ∀ (n pc : Nat) (ls : xL) (st : List xV) (c : zT), zloop (zcall d) mu n pc ls st c = some (r, c') → xloop xft xNf xmt xtr (xcall xft xNf xmt xtr d) mu P n pc ls st (zal H M c) := by
      intro n
      induction n with
      | zero => intro pc ls st c h; simp [zloop] at h
      | succ n ihn =>
        intro pc ls st c h
        simp only [zloop] at h
        show xgo _ _ _ _ _ _ _ _ _ _ _
        split at h
        · rename_i hz
          cases h
          exact zgo_ok ih _ _ _ _ _ _ hz hP
        · rename_i pc' ls' st' c1 hz
          exact zgo_ok ih _ _ _ _ _ _ hz (ihn pc' ls' st' c1 h)
        · cases h
    exact ⟨40, key 40 0 _ _ c h⟩
end CON2
