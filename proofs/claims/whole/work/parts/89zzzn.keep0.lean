/-! ===== the script is never written ===== -/
def k0 (S S' : xS) : Prop := 0 < S'.1 ∧ S'.2.2.2 0 = S.2.2.2 0 ∧ S'.2.2.1 0 = S.2.2.1 0
theorem k0.tr {S S1 S2 : xS} (h : k0 S S1) (h2 : k0 S1 S2) : k0 S S2 := ⟨h2.1, h2.2.1.trans h.2.1, h2.2.2.trans h.2.2⟩
theorem k0_up {M : xM} {k : Nat} {i v : Int} (h : 0 < k) : xup M k i v 0 = M 0 := by
  funext j
  show (if (0 : Nat) = k ∧ j = i then v else M 0 j) = M 0 j
  rw [if_neg (fun z => by omega)]
theorem k0_new {α : Type} {M : Nat → α} {k : Nat} {f : α} (h : 0 < k) : xnew M k f 0 = M 0 := by
  show (if (0 : Nat) = k then f else M 0) = M 0
  rw [if_neg (by omega)]
theorem k0_cpy {M : xM} {s d : Nat} {sp dp n : Int} (h : 0 < d) : xcpy M s sp d dp n 0 = M 0 := by
  funext j
  show (if (0 : Nat) = d ∧ dp ≤ j ∧ j < dp + n then _ else M 0 j) = M 0 j
  rw [if_neg (fun z => by omega)]
section KPO
variable {T : Nat → Nat → Nat × Nat} {N : Nat → Nat} {mt : xMt} {tr : Nat → Nat → List xI}
theorem xsim_k0 {ins : Instr} {a b : Nat} {ls ls' : xL} {st st' : List xV} {S S' : xS} {g : Option Prop} (h0 : 0 < S.1) (h : xsim T N ins a b ls st S = some (g, ls', st', S')) (hg : ∀ p, g = some p → p) : k0 S S' := by
  unfold xsim at h
  split at h
  all_goals (try (split at h))
  all_goals (try (split at h))
  all_goals (first | (cases h; done) | skip)
  all_goals (simp only [Option.some.injEq, Prod.mk.injEq] at h; obtain ⟨hgg, -, -, rfl⟩ := h)
  all_goals (first | exact ⟨h0, rfl, rfl⟩ | exact ⟨Nat.succ_pos _, k0_new h0, k0_new h0⟩ | exact ⟨h0, k0_up (hg _ hgg.symm).1, rfl⟩ | exact ⟨h0, k0_cpy (hg _ hgg.symm).2.1.1, rfl⟩ | exact ⟨h0, rfl, k0_new (hg _ hgg.symm).1⟩)
theorem xctl_k0 {K K' : Nat → xL → List xV → xS → Prop} {Q Q' : xV → xS → Prop} {C C' : Nat → List xV → xS → (xV → xS → Prop) → Prop} {go go' : Nat → xL → List xV → xS → Prop} {S0 S : xS}
    (hC : ∀ a as S P P', 0 < S.1 → (∀ r S', k0 S S' → P r S' → P' r S') → C a as S P → C' a as S P') (hK : ∀ pc ls st S, k0 S0 S → K pc ls st S → K' pc ls st S) (hQ : ∀ r S, k0 S0 S → Q r S → Q' r S) (hg : ∀ sk ls st S, k0 S0 S → go sk ls st S → go' sk ls st S) (hS : k0 S0 S) (pc : Nat) (ins : Instr) (a b : Nat) (ls : xL) (st : List xV)
    (h : xctl mt C K Q go pc ins a b ls st S) : xctl mt C' K' Q' go' pc ins a b ls st S := by
  cases ins with
  | if_icmp c o =>
    rcases st with _ | ⟨y | y, _ | ⟨x | x, st⟩⟩
    all_goals first | exact h.elim | skip
    refine ⟨h.1, fun z => ?_, fun z => hg _ _ _ _ hS (h.2.2 z)⟩
    have h1 := h.2.1 z
    cases a with
    | zero => exact hg _ _ _ _ hS h1
    | succ n => exact hK _ _ _ _ hS h1
  | ifCond c o =>
    rcases st with _ | ⟨x | x, st⟩
    all_goals first | exact h.elim | skip
    refine ⟨h.1, fun z => ?_, fun z => hg _ _ _ _ hS (h.2.2 z)⟩
    have h1 := h.2.1 z
    cases a with
    | zero => exact hg _ _ _ _ hS h1
    | succ n => exact hK _ _ _ _ hS h1
  | goto o =>
    cases a with
    | zero => exact hg _ _ _ _ hS h
    | succ n => exact hK _ _ _ _ hS h
  | nop =>
    rcases a with _ | _ | a
    · exact h.elim
    · exact hK _ _ _ _ hS h
    · exact h.elim
  | tableswitch d lo hi offs =>
    rcases st with _ | ⟨x | x, st⟩
    all_goals first | exact h.elim | skip
    exact ⟨h.1, fun z => hK _ _ _ _ hS (h.2.1 z), fun z => hK _ _ _ _ hS (h.2.2 z)⟩
  | ireturn =>
    rcases st with _ | ⟨x | x, _ | ⟨y, st⟩⟩
    all_goals first | exact h.elim | skip
    rcases a with _ | _ | _ | a
    · exact hQ _ _ hS h
    · exact hQ _ _ hS h
    · exact ⟨h.1, hQ _ _ hS h.2⟩
    · exact hQ _ _ hS h
  | areturn =>
    rcases st with _ | ⟨x | x, _ | ⟨y, st⟩⟩
    all_goals first | exact h.elim | skip
    exact hQ _ _ hS h
  | return_ =>
    cases st with
    | nil => exact hQ _ _ hS h
    | cons _ _ => exact h.elim
  | invokevirtual o => exact ⟨h.1, hC _ _ _ _ _ hS.1 (fun r S' k q => hg _ _ _ _ (hS.tr k) q) h.2⟩
  | invokespecial o => exact ⟨h.1, hC _ _ _ _ _ hS.1 (fun r S' k q => hg _ _ _ _ (hS.tr k) q) h.2⟩
  | invokestatic o => exact ⟨h.1, hC _ _ _ _ _ hS.1 (fun r S' k q => hg _ _ _ _ (hS.tr k) q) h.2⟩
  | _ => exact h.elim
theorem xgo_k0 {K K' : Nat → xL → List xV → xS → Prop} {Q Q' : xV → xS → Prop} {C C' : Nat → List xV → xS → (xV → xS → Prop) → Prop} {S0 : xS}
    (hC : ∀ a as S P P', 0 < S.1 → (∀ r S', k0 S S' → P r S' → P' r S') → C a as S P → C' a as S P') (hK : ∀ pc ls st S, k0 S0 S → K pc ls st S → K' pc ls st S) (hQ : ∀ r S, k0 S0 S → Q r S → Q' r S) : ∀ (L : List xI) (sk : Nat) (ls : xL) (st : List xV) (S : xS), k0 S0 S → xgo T N mt C K Q L sk ls st S → xgo T N mt C' K' Q' L sk ls st S := by
  intro L
  induction L with
  | nil => intro sk ls st S _ h; simp only [xgo] at h
  | cons e rest ih =>
    intro sk ls st S hS h
    cases sk with
    | succ sk => simp only [xgo] at h ⊢; exact ih sk ls st S hS h
    | zero =>
      obtain ⟨pc, ins, a, b⟩ := e
      simp only [xgo] at h ⊢
      cases hx : xsim T N ins a b ls st S with
      | none => rw [hx] at h; exact xctl_k0 hC hK hQ (fun sk ls st S k q => ih sk ls st S k q) hS pc ins a b ls st h
      | some q =>
        obtain ⟨g, ls', st', S'⟩ := q
        rw [hx] at h
        cases g with
        | none => exact ih 0 ls' st' S' (hS.tr (xsim_k0 hS.1 hx (fun p z => by cases z))) h
        | some g => exact ⟨h.1, ih 0 ls' st' S' (hS.tr (xsim_k0 hS.1 hx (fun p z => by cases z; exact h.1))) h.2⟩
theorem xloop_k0 {Q Q' : xV → xS → Prop} {C C' : Nat → List xV → xS → (xV → xS → Prop) → Prop} {S0 : xS} (hC : ∀ a as S P P', 0 < S.1 → (∀ r S', k0 S S' → P r S' → P' r S') → C a as S P → C' a as S P') (hQ : ∀ r S, k0 S0 S → Q r S → Q' r S) (mu : Nat) : ∀ (n pc : Nat) (ls : xL) (st : List xV) (S : xS), k0 S0 S → xloop T N mt tr C mu Q n pc ls st S → xloop T N mt tr C' mu Q' n pc ls st S := by
  intro n
  induction n with
  | zero => intro pc ls st S _ h; exact h.elim
  | succ n ih =>
    intro pc ls st S hS h
    exact xgo_k0 hC (fun pc ls st S k q => ih pc ls st S k q) hQ _ _ _ _ _ hS h
theorem xcall_k0 : ∀ (d mu : Nat) (as : List xV) (S : xS) (P P' : xV → xS → Prop), 0 < S.1 → (∀ r S', k0 S S' → P r S' → P' r S') → xcall T N mt tr d mu as S P → xcall T N mt tr d mu as S P' := by
  intro d
  induction d with
  | zero => intro mu as S P P' _ _ h; exact h.elim
  | succ d ih =>
    intro mu as S P P' h0 hP h
    obtain ⟨n, h⟩ := h
    exact ⟨n, xloop_k0 (fun a as S P P' z hp q => ih a as S P P' z hp q) hP mu n 0 _ _ S ⟨h0, rfl, rfl⟩ h⟩
end KPO
/-- one op of the script: the class's answer, then the reference's, at what the script says -/
def opL (e : yE) (M : xM) (mu nu : Nat) (f : (Int → Int) → List xV) : Prop := xcall xft xNf xmt xtr 2046 mu (.inr (some 1) :: f (M 0)) (yS e M) (fun r S => ∃ y e1 M1, r = .inl y ∧ S = yS e1 M1 ∧ (0 < e1.1 ∧ e1.2.2 0 = e.2.2 0) ∧ xcall xft xNf xmt xtr 2046 nu (.inr (some 59) :: f (M1 0)) (yS e1 M1) (fun r2 S2 => ∃ M2, r2 = .inl y ∧ S2 = yS e1 M2 ∧ rg y ∧ Rel e1 M2 ∧ M2 0 = M 0) ∧ 99 < e1.1 ∧ RSh e1)
theorem Rel.sh {e : yE} {M : xM} (h : Rel e M) : CSh e ∧ RSh e := by
  obtain ⟨cs, cl, hc, -⟩ := h
  exact ⟨hc.1, hc.2.1⟩
theorem opL_y {e : yE} {M : xM} {mu nu : Nat} {f : (Int → Int) → List xV} (hs : RSh e) (h : xcall xft xNf xmt xtr 2046 mu (.inr (some 1) :: f (M 0)) (yS e M) (yI e (fun y M1 => xcall xft xNf xmt xtr 2046 nu (.inr (some 59) :: f (M 0)) (yS e M1) (yI e (fun y2 M2 => y = y2 ∧ rg y ∧ Rel e M2 ∧ M2 0 = M 0))))) : opL e M mu nu f := by
  have h0 : 0 < e.1 := by have := hs.1; omega
  refine xcall_k0 2046 mu _ _ _ _ h0 (fun r S' k q => ?_) h
  obtain ⟨y, M1, rfl, rfl, hq⟩ := q
  have k1 : M1 0 = M 0 := k.2.1
  refine ⟨y, e, M1, rfl, rfl, ⟨h0, rfl⟩, ?_, hs.1, hs⟩
  rw [k1]
  refine xcall_mono 2046 2046 nu _ _ _ _ (Nat.le_refl _) (fun r2 S2 q2 => ?_) hq
  obtain ⟨y2, M2, rfl, rfl, g1, g2, g3, g4⟩ := q2
  subst g1
  exact ⟨M2, rfl, rfl, g2, g3, g4⟩
theorem opL_z {e : yE} {M : xM} {mu nu : Nat} {f : (Int → Int) → List xV} (hs : RSh e) (h : xcall xft xNf xmt xtr 2046 mu (.inr (some 1) :: f (M 0)) (yS e M) (zI (fun y e1 M1 => yLe e e1 ∧ xcall xft xNf xmt xtr 2046 nu (.inr (some 59) :: f (M 0)) (yS e1 M1) (yI e1 (fun y2 M2 => y = y2 ∧ rg y ∧ Rel e1 M2 ∧ M2 0 = M 0))))) : opL e M mu nu f := by
  have h0 : 0 < e.1 := by have := hs.1; omega
  refine xcall_k0 2046 mu _ _ _ _ h0 (fun r S' k q => ?_) h
  obtain ⟨y, e1, M1, rfl, rfl, hle, hq⟩ := q
  have k1 : M1 0 = M 0 := k.2.1
  have hs1 : RSh e1 := by
    refine ⟨Nat.lt_of_lt_of_le hs.1 hle.1, by rw [hle.2 59 (by have := hs.1; omega)]; exact hs.2.1, fun i q hq => ?_⟩
    have hi : i < 40 := (List.getElem?_eq_some_iff.mp hq).1
    rw [hle.2 (i + 60) (by have := hs.1; omega)]
    exact hs.2.2 i q hq
  refine ⟨y, e1, M1, rfl, rfl, ⟨k.1, k.2.2⟩, ?_, hs1.1, hs1⟩
  rw [k1]
  refine xcall_mono 2046 2046 nu _ _ _ _ (Nat.le_refl _) (fun r2 S2 q2 => ?_) hq
  obtain ⟨y2, M2, rfl, rfl, g1, g2, g3, g4⟩ := q2
  subst g1
  exact ⟨M2, rfl, rfl, g2, g3, g4⟩
theorem opL_use {e : yE} {M : xM} {mu nu : Nat} {f : (Int → Int) → List xV} {P : xV → xS → Prop} (h : opL e M mu nu f) (hP : ∀ y e1 M1, 0 < e1.1 → e1.2.2 0 = e.2.2 0 → RSh e1 → (∀ P2 : xV → xS → Prop, (∀ M2, rg y → Rel e1 M2 → M2 0 = M 0 → P2 (.inl y) (yS e1 M2)) → xcall xft xNf xmt xtr 2046 nu (.inr (some 59) :: f (M1 0)) (yS e1 M1) P2) → P (.inl y) (yS e1 M1)) : xcall xft xNf xmt xtr 2046 mu (.inr (some 1) :: f (M 0)) (yS e M) P := by
  refine xcall_mono 2046 2046 mu _ _ _ _ (Nat.le_refl _) (fun r S' q => ?_) h
  obtain ⟨y, e1, M1, rfl, rfl, ⟨h0, h1⟩, h2, -, hs⟩ := q
  refine hP y e1 M1 h0 h1 hs (fun P2 hP2 => ?_)
  refine xcall_mono 2046 2046 nu _ _ _ _ (Nat.le_refl _) (fun r2 S2 q2 => ?_) h2
  obtain ⟨M2, rfl, rfl, g2, g3, g4⟩ := q2
  exact hP2 M2 g2 g3 g4
