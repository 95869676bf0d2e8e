/-! ===== the small machine has one end: what holds behind it holds of one answer and one state; cells and slots only grow ===== -/
def xPt (S : xS) (T : (xV → xS → Prop) → Prop) : Prop := ∀ Q, T Q → ∃ r S', Q r S' ∧ S.1 ≤ S'.1 ∧ S.2.1 ≤ S'.2.1 ∧ ∀ Q' : xV → xS → Prop, Q' r S' → T Q'
theorem xPt.and {S : xS} {T : (xV → xS → Prop) → Prop} {g : Prop} (h : xPt S T) : xPt S (fun Q => g ∧ T Q) := by
  intro Q ⟨hg, ht⟩
  obtain ⟨r, S', a, b, c, d⟩ := h Q ht
  exact ⟨r, S', a, b, c, fun Q' q => ⟨hg, d Q' q⟩⟩
theorem xPt.br {S : xS} {A B : (xV → xS → Prop) → Prop} {c : Prop} (ha : xPt S A) (hb : xPt S B) : xPt S (fun Q => (c → A Q) ∧ (¬ c → B Q)) := by
  intro Q ⟨h1, h2⟩
  by_cases hc : c
  · obtain ⟨r, S', a, b, e, d⟩ := ha Q (h1 hc)
    exact ⟨r, S', a, b, e, fun Q' q => ⟨fun _ => d Q' q, fun h => absurd hc h⟩⟩
  · obtain ⟨r, S', a, b, e, d⟩ := hb Q (h2 hc)
    exact ⟨r, S', a, b, e, fun Q' q => ⟨fun h => absurd h hc, fun _ => d Q' q⟩⟩
theorem xPt.up {S S1 : xS} {T : (xV → xS → Prop) → Prop} (h : xPt S1 T) (h1 : S.1 ≤ S1.1) (h2 : S.2.1 ≤ S1.2.1) : xPt S T := by
  intro Q ht
  obtain ⟨r, S', a, b, c, d⟩ := h Q ht
  exact ⟨r, S', a, Nat.le_trans h1 b, Nat.le_trans h2 c, d⟩
theorem xPt.q {S : xS} {r : xV} : xPt S (fun Q => Q r S) := fun _ h => ⟨r, S, h, Nat.le_refl _, Nat.le_refl _, fun _ q => q⟩
theorem xPt.no {S : xS} : xPt S (fun _ => False) := fun _ h => h.elim
theorem xPt.bind {S : xS} {T : (xV → xS → Prop) → Prop} {K : xV → xS → (xV → xS → Prop) → Prop} (h : xPt S T) (hk : ∀ r S', xPt S' (K r S')) : xPt S (fun Q => T (fun r S' => K r S' Q)) := by
  intro Q ht
  obtain ⟨r, S', a, b, c, d⟩ := h _ ht
  obtain ⟨r2, S2, a2, b2, c2, d2⟩ := hk r S' Q a
  exact ⟨r2, S2, a2, Nat.le_trans b b2, Nat.le_trans c c2, fun Q' q => d _ (d2 Q' q)⟩
theorem xPt.ex {S : xS} {T : Nat → (xV → xS → Prop) → Prop} (h : ∀ n, xPt S (T n)) : xPt S (fun Q => ∃ n, T n Q) := by
  intro Q ⟨n, ht⟩
  obtain ⟨r, S', a, b, c, d⟩ := h n Q ht
  exact ⟨r, S', a, b, c, fun Q' q => ⟨n, d Q' q⟩⟩
theorem xsim_up {T : Nat → Nat → Nat × Nat} {N : Nat → Nat} {ins : Instr} {a b : Nat} {ls ls' : xL} {st st' : List xV} {S S' : xS} {g : Option Prop} (h : xsim T N ins a b ls st S = some (g, ls', st', S')) : S.1 ≤ S'.1 ∧ S.2.1 ≤ S'.2.1 := by
  unfold xsim at h
  split at h
  all_goals (try (split at h))
  all_goals (try (split at h))
  all_goals (first | (cases h; done) | (simp only [Option.some.injEq, Prod.mk.injEq] at h; obtain ⟨-, -, -, rfl⟩ := h; exact ⟨by simp, by simp⟩))
section PT
variable {T : Nat → Nat → Nat × Nat} {N : Nat → Nat} {mt : xMt} {C : Nat → List xV → xS → (xV → xS → Prop) → Prop} {K : (xV → xS → Prop) → Nat → xL → List xV → xS → Prop}
theorem xctl_pt {go : (xV → xS → Prop) → Nat → xL → List xV → xS → Prop} (hC : ∀ a as S, xPt S (C a as S)) (hK : ∀ pc ls st S, xPt S (fun Q => K Q pc ls st S)) (hg : ∀ sk ls st S, xPt S (fun Q => go Q sk ls st S)) (pc : Nat) (ins : Instr) (a b : Nat) (ls : xL) (st : List xV) (S : xS) :
    xPt S (fun Q => xctl mt C (K Q) Q (go Q) pc ins a b ls st S) := by
  cases ins with
  | if_icmp c o =>
    rcases st with _ | ⟨y | y, _ | ⟨x | x, st⟩⟩
    all_goals first | exact xPt.no | skip
    refine xPt.and (xPt.br ?_ (hg _ _ _ _))
    cases a with
    | zero => exact hg _ _ _ _
    | succ n => exact hK _ _ _ _
  | ifCond c o =>
    rcases st with _ | ⟨x | x, st⟩
    all_goals first | exact xPt.no | skip
    refine xPt.and (xPt.br ?_ (hg _ _ _ _))
    cases a with
    | zero => exact hg _ _ _ _
    | succ n => exact hK _ _ _ _
  | goto o =>
    cases a with
    | zero => exact hg _ _ _ _
    | succ n => exact hK _ _ _ _
  | nop =>
    rcases a with _ | _ | a
    · exact xPt.no
    · exact hK _ _ _ _
    · exact xPt.no
  | tableswitch d lo hi offs =>
    rcases st with _ | ⟨x | x, st⟩
    all_goals first | exact xPt.no | skip
    exact xPt.and (xPt.br (hK _ _ _ _) (hK _ _ _ _))
  | ireturn =>
    rcases st with _ | ⟨x | x, _ | ⟨y, st⟩⟩
    all_goals first | exact xPt.no | skip
    rcases a with _ | _ | _ | a
    · exact xPt.q
    · exact xPt.q
    · exact xPt.and xPt.q
    · exact xPt.q
  | areturn =>
    rcases st with _ | ⟨x | x, _ | ⟨y, st⟩⟩
    all_goals first | exact xPt.no | skip
    exact xPt.q
  | return_ =>
    cases st with
    | nil => exact xPt.q
    | cons _ _ => exact xPt.no
  | invokevirtual o => exact xPt.and (xPt.bind (hC _ _ _) (fun r S' => hg _ _ _ _))
  | invokespecial o => exact xPt.and (xPt.bind (hC _ _ _) (fun r S' => hg _ _ _ _))
  | invokestatic o => exact xPt.and (xPt.bind (hC _ _ _) (fun r S' => hg _ _ _ _))
  | _ => exact xPt.no
theorem xgo_pt (hC : ∀ a as S, xPt S (C a as S)) (hK : ∀ pc ls st S, xPt S (fun Q => K Q pc ls st S)) : ∀ (L : List xI) (sk : Nat) (ls : xL) (st : List xV) (S : xS), xPt S (fun Q => xgo T N mt C (K Q) Q L sk ls st S) := by
  intro L
  induction L with
  | nil => intro sk ls st S; simp only [xgo]; exact xPt.no
  | cons e rest ih =>
    intro sk ls st S
    cases sk with
    | succ sk => simp only [xgo]; exact ih sk ls st S
    | zero =>
      obtain ⟨pc, ins, a, b⟩ := e
      simp only [xgo]
      cases hx : xsim T N ins a b ls st S with
      | none => exact xctl_pt hC hK (fun sk ls st S => ih sk ls st S) pc ins a b ls st S
      | some q =>
        obtain ⟨g, ls', st', S'⟩ := q
        obtain ⟨h1, h2⟩ := xsim_up hx
        cases g with
        | none => exact (ih 0 ls' st' S').up h1 h2
        | some g => exact xPt.and ((ih 0 ls' st' S').up h1 h2)
end PT
section PT2
variable {T : Nat → Nat → Nat × Nat} {N : Nat → Nat} {mt : xMt} {tr : Nat → Nat → List xI} {C : Nat → List xV → xS → (xV → xS → Prop) → Prop}
theorem xloop_pt (hC : ∀ a as S, xPt S (C a as S)) (mu : Nat) : ∀ (n pc : Nat) (ls : xL) (st : List xV) (S : xS), xPt S (fun Q => xloop T N mt tr C mu Q n pc ls st S) := by
  intro n
  induction n with
  | zero => intro pc ls st S; exact xPt.no
  | succ n ih =>
    intro pc ls st S
    exact xgo_pt (K := fun Q pc ls st S => xloop T N mt tr C mu Q n pc ls st S) hC (fun pc ls st S => ih pc ls st S) _ _ _ _ _
theorem xcall_pt : ∀ (d mu : Nat) (as : List xV) (S : xS), xPt S (fun Q => xcall T N mt tr d mu as S Q) := by
  intro d
  induction d with
  | zero => intro mu as S; exact xPt.no
  | succ d ih =>
    intro mu as S
    exact xPt.ex (fun n => xloop_pt ih mu n 0 _ [] S)
/-- a method's road from a stretch on, with d frames below it: no fuel to be seen -/
def xGo (T : Nat → Nat → Nat × Nat) (N : Nat → Nat) (mt : xMt) (tr : Nat → Nat → List xI) (d mu pc : Nat) (ls : xL) (st : List xV) (S : xS) (Q : xV → xS → Prop) : Prop := ∃ n, xloop T N mt tr (xcall T N mt tr d) mu Q n pc ls st S
/-- more posts, other roads: monotone -/
theorem xctl_mono {K K' : Nat → xL → List xV → xS → Prop} {Q Q' : xV → xS → Prop} {C C' : Nat → List xV → xS → (xV → xS → Prop) → Prop} {go go' : Nat → xL → List xV → xS → Prop}
    (hC : ∀ a as S P P', (∀ r S', P r S' → P' r S') → C a as S P → C' a as S P') (hK : ∀ pc ls st S, K pc ls st S → K' pc ls st S) (hQ : ∀ r S, Q r S → Q' r S) (hg : ∀ sk ls st S, go sk ls st S → go' sk ls st S) (pc : Nat) (ins : Instr) (a b : Nat) (ls : xL) (st : List xV) (S : xS)
    (h : xctl mt C K Q go pc ins a b ls st S) : xctl mt C' K' Q' go' pc ins a b ls st S := by
  cases ins with
  | if_icmp c o =>
    rcases st with _ | ⟨y | y, _ | ⟨x | x, st⟩⟩
    all_goals first | exact h.elim | skip
    refine ⟨h.1, fun z => ?_, fun z => hg _ _ _ _ (h.2.2 z)⟩
    have h1 := h.2.1 z
    cases a with
    | zero => exact hg _ _ _ _ h1
    | succ n => exact hK _ _ _ _ h1
  | ifCond c o =>
    rcases st with _ | ⟨x | x, st⟩
    all_goals first | exact h.elim | skip
    refine ⟨h.1, fun z => ?_, fun z => hg _ _ _ _ (h.2.2 z)⟩
    have h1 := h.2.1 z
    cases a with
    | zero => exact hg _ _ _ _ h1
    | succ n => exact hK _ _ _ _ h1
  | goto o =>
    cases a with
    | zero => exact hg _ _ _ _ h
    | succ n => exact hK _ _ _ _ h
  | nop =>
    rcases a with _ | _ | a
    · exact h.elim
    · exact hK _ _ _ _ h
    · exact h.elim
  | tableswitch d lo hi offs =>
    rcases st with _ | ⟨x | x, st⟩
    all_goals first | exact h.elim | skip
    exact ⟨h.1, fun z => hK _ _ _ _ (h.2.1 z), fun z => hK _ _ _ _ (h.2.2 z)⟩
  | ireturn =>
    rcases st with _ | ⟨x | x, _ | ⟨y, st⟩⟩
    all_goals first | exact h.elim | skip
    rcases a with _ | _ | _ | a
    · exact hQ _ _ h
    · exact hQ _ _ h
    · exact ⟨h.1, hQ _ _ h.2⟩
    · exact hQ _ _ h
  | areturn =>
    rcases st with _ | ⟨x | x, _ | ⟨y, st⟩⟩
    all_goals first | exact h.elim | skip
    exact hQ _ _ h
  | return_ =>
    cases st with
    | nil => exact hQ _ _ h
    | cons _ _ => exact h.elim
  | invokevirtual o => exact ⟨h.1, hC _ _ _ _ _ (fun r S' q => hg _ _ _ _ q) h.2⟩
  | invokespecial o => exact ⟨h.1, hC _ _ _ _ _ (fun r S' q => hg _ _ _ _ q) h.2⟩
  | invokestatic o => exact ⟨h.1, hC _ _ _ _ _ (fun r S' q => hg _ _ _ _ q) h.2⟩
  | _ => exact h.elim
theorem xgo_mono {K K' : Nat → xL → List xV → xS → Prop} {Q Q' : xV → xS → Prop} {C C' : Nat → List xV → xS → (xV → xS → Prop) → Prop}
    (hC : ∀ a as S P P', (∀ r S', P r S' → P' r S') → C a as S P → C' a as S P') (hK : ∀ pc ls st S, K pc ls st S → K' pc ls st S) (hQ : ∀ r S, Q r S → Q' r S) : ∀ (L : List xI) (sk : Nat) (ls : xL) (st : List xV) (S : xS), xgo T N mt C K Q L sk ls st S → xgo T N mt C' K' Q' L sk ls st S := by
  intro L
  induction L with
  | nil => intro sk ls st S h; simp only [xgo] at h
  | cons e rest ih =>
    intro sk ls st S h
    cases sk with
    | succ sk => simp only [xgo] at h ⊢; exact ih sk ls st S h
    | zero =>
      obtain ⟨pc, ins, a, b⟩ := e
      simp only [xgo] at h ⊢
      cases hx : xsim T N ins a b ls st S with
      | none => rw [hx] at h; exact xctl_mono hC hK hQ (fun sk ls st S => ih sk ls st S) pc ins a b ls st S h
      | some q =>
        obtain ⟨g, ls', st', S'⟩ := q
        rw [hx] at h
        cases g with
        | none => exact ih 0 ls' st' S' h
        | some g => exact ⟨h.1, ih 0 ls' st' S' h.2⟩
theorem xloop_mono {Q Q' : xV → xS → Prop} {C C' : Nat → List xV → xS → (xV → xS → Prop) → Prop} (hC : ∀ a as S P P', (∀ r S', P r S' → P' r S') → C a as S P → C' a as S P') (hQ : ∀ r S, Q r S → Q' r S) (mu : Nat) : ∀ (n k pc : Nat) (ls : xL) (st : List xV) (S : xS), n ≤ k → xloop T N mt tr C mu Q n pc ls st S → xloop T N mt tr C' mu Q' k pc ls st S := by
  intro n
  induction n with
  | zero => intro k pc ls st S _ h; exact h.elim
  | succ n ih =>
    intro k pc ls st S hk h
    obtain ⟨k, rfl⟩ : ∃ j, k = j + 1 := ⟨k - 1, by omega⟩
    exact xgo_mono hC (fun pc ls st S q => ih k pc ls st S (by omega) q) hQ _ _ _ _ _ h
theorem xcall_mono : ∀ (d k mu : Nat) (as : List xV) (S : xS) (P P' : xV → xS → Prop), d ≤ k → (∀ r S', P r S' → P' r S') → xcall T N mt tr d mu as S P → xcall T N mt tr k mu as S P' := by
  intro d
  induction d with
  | zero => intro k mu as S P P' _ _ h; exact h.elim
  | succ d ih =>
    intro k mu as S P P' hk hP h
    obtain ⟨k, rfl⟩ : ∃ j, k = j + 1 := ⟨k - 1, by omega⟩
    obtain ⟨n, h⟩ := h
    exact ⟨n, xloop_mono (fun a as S P P' hp q => ih k a as S P P' (by omega) hp q) hP mu n n 0 _ _ _ (Nat.le_refl _) h⟩
theorem xGo.mono {d k mu pc : Nat} {ls : xL} {st : List xV} {S : xS} {Q Q' : xV → xS → Prop} (h : xGo T N mt tr d mu pc ls st S Q) (hd : d ≤ k) (hQ : ∀ r S, Q r S → Q' r S) : xGo T N mt tr k mu pc ls st S Q' := by
  obtain ⟨n, h⟩ := h
  exact ⟨n, xloop_mono (fun a as S P P' hp q => xcall_mono d k a as S P P' hd hp q) hQ mu n n pc _ _ _ (Nat.le_refl _) h⟩
/-- on from a stretch: its own text, with the roads as xGo -/
theorem xGo.in {d mu pc : Nat} {ls : xL} {st : List xV} {S : xS} {Q : xV → xS → Prop} (h : xgo T N mt (xcall T N mt tr d) (fun pc ls st S => xGo T N mt tr d mu pc ls st S Q) Q (tr mu pc) 0 ls st S) : xGo T N mt tr d mu pc ls st S Q := by
  have hp : ∀ (L : List xI) (sk : Nat) (ls : xL) (st : List xV) (S : xS), xgo T N mt (xcall T N mt tr d) (fun pc ls st S => xGo T N mt tr d mu pc ls st S Q) Q L sk ls st S → ∃ n, xgo T N mt (xcall T N mt tr d) (fun pc ls st S => xloop T N mt tr (xcall T N mt tr d) mu Q n pc ls st S) Q L sk ls st S := by
    intro L sk ls st S h
    have h2 := xgo_pt (T := T) (N := N) (mt := mt) (C := xcall T N mt tr d) (K := fun Q' pc ls st S => xGo T N mt tr d mu pc ls st S Q') (xcall_pt d) (fun pc ls st S => xPt.ex (fun n => xloop_pt (xcall_pt d) mu n pc ls st S)) L sk ls st S Q h
    clear h2
    induction L generalizing sk ls st S with
    | nil => simp only [xgo] at h
    | cons e rest ih =>
      cases sk with
      | succ sk => simp only [xgo] at h ⊢; exact ih sk ls st S h
      | zero =>
        obtain ⟨pc, ins, a, b⟩ := e
        simp only [xgo] at h ⊢
        cases hx : xsim T N ins a b ls st S with
        | some q =>
          obtain ⟨g, ls', st', S'⟩ := q
          rw [hx] at h
          cases g with
          | none => exact ih 0 ls' st' S' h
          | some g => obtain ⟨n, q⟩ := ih 0 ls' st' S' h.2; exact ⟨n, h.1, q⟩
        | none =>
          rw [hx] at h
          have call : ∀ (m' : Nat) (as : List xV) (F : xV → xS → List xV), xcall T N mt tr d m' as S (fun r S' => xgo T N mt (xcall T N mt tr d) (fun pc ls st S => xGo T N mt tr d mu pc ls st S Q) Q rest 0 ls (F r S') S') → ∃ n, xcall T N mt tr d m' as S (fun r S' => xgo T N mt (xcall T N mt tr d) (fun pc ls st S => xloop T N mt tr (xcall T N mt tr d) mu Q n pc ls st S) Q rest 0 ls (F r S') S') := by
            intro m' as F hc
            obtain ⟨r, S', a1, -, -, a4⟩ := xcall_pt d m' as S _ hc
            obtain ⟨n, q⟩ := ih 0 _ _ _ a1
            exact ⟨n, a4 _ q⟩
          cases ins with
          | if_icmp c o =>
            rcases st with _ | ⟨y | y, _ | ⟨x | x, st⟩⟩
            all_goals first | exact h.elim | skip
            by_cases hc : xc c x y
            · have h1 := h.2.1 hc
              cases a with
              | zero => obtain ⟨n, q⟩ := ih _ _ _ _ h1; exact ⟨n, h.1, fun _ => q, fun z => absurd hc z⟩
              | succ k => obtain ⟨n, q⟩ := h1; exact ⟨n, h.1, fun _ => q, fun z => absurd hc z⟩
            · obtain ⟨n, q⟩ := ih _ _ _ _ (h.2.2 hc); exact ⟨n, h.1, fun z => absurd z hc, fun _ => q⟩
          | ifCond c o =>
            rcases st with _ | ⟨x | x, st⟩
            all_goals first | exact h.elim | skip
            by_cases hc : xc c x 0
            · have h1 := h.2.1 hc
              cases a with
              | zero => obtain ⟨n, q⟩ := ih _ _ _ _ h1; exact ⟨n, h.1, fun _ => q, fun z => absurd hc z⟩
              | succ k => obtain ⟨n, q⟩ := h1; exact ⟨n, h.1, fun _ => q, fun z => absurd hc z⟩
            · obtain ⟨n, q⟩ := ih _ _ _ _ (h.2.2 hc); exact ⟨n, h.1, fun z => absurd z hc, fun _ => q⟩
          | goto o =>
            cases a with
            | zero => obtain ⟨n, q⟩ := ih _ _ _ _ h; exact ⟨n, q⟩
            | succ k => obtain ⟨n, q⟩ := h; exact ⟨n, q⟩
          | nop =>
            rcases a with _ | _ | a
            · exact h.elim
            · obtain ⟨n, q⟩ := h; exact ⟨n, q⟩
            · exact h.elim
          | tableswitch d lo hi offs =>
            rcases st with _ | ⟨x | x, st⟩
            all_goals first | exact h.elim | skip
            by_cases hc : x < lo ∨ hi < x
            · obtain ⟨n, q⟩ := h.2.1 hc; exact ⟨n, h.1, fun _ => q, fun z => absurd hc z⟩
            · obtain ⟨n, q⟩ := h.2.2 hc; exact ⟨n, h.1, fun z => absurd z hc, fun _ => q⟩
          | ireturn =>
            rcases st with _ | ⟨x | x, _ | ⟨y, st⟩⟩
            all_goals first | exact h.elim | skip
            rcases a with _ | _ | _ | a
            all_goals exact ⟨0, h⟩
          | areturn =>
            rcases st with _ | ⟨x | x, _ | ⟨y, st⟩⟩
            all_goals first | exact h.elim | skip
            exact ⟨0, h⟩
          | return_ =>
            cases st with
            | nil => exact ⟨0, h⟩
            | cons _ _ => exact h.elim
          | invokevirtual o => obtain ⟨n, q⟩ := call _ _ _ h.2; exact ⟨n, h.1, q⟩
          | invokespecial o => obtain ⟨n, q⟩ := call _ _ _ h.2; exact ⟨n, h.1, q⟩
          | invokestatic o => obtain ⟨n, q⟩ := call _ _ _ h.2; exact ⟨n, h.1, q⟩
          | _ => exact h.elim
  obtain ⟨n, q⟩ := hp _ _ _ _ _ h
  exact ⟨n + 1, q⟩
theorem xcall_of {d mu : Nat} {as : List xV} {S : xS} {Q : xV → xS → Prop} (h : xGo T N mt tr d mu 0 (xent as (mt mu).2.2.2) [] S Q) : xcall T N mt tr (d + 1) mu as S Q := h
end PT2
