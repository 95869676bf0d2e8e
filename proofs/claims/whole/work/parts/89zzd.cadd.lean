/-! ===== the class: Terms.add ===== -/
def orS (f a : Int → Int) (x : Int) : Nat → Int
  | 0 => x
  | n + 1 => xor32 (orS f a x n) (f (a n))
def fkS (f a : Int → Int) (x : Int) : Nat → Int
  | 0 => x
  | n + 1 => if fkS f a x n ≠ 0 then 1 else if f (a n) = 0 then 0 else 1
def smW (f a : Int → Int) : Nat → Int
  | 0 => 1
  | n + 1 => smW f a n + f (a n)
/-- what comes behind the others -/
def adT (k : Nat) (M M' : xM) (kind t label n own : Int) (a : Int → Int) : Prop :=
  (∀ j, ¬ (k ≤ j ∧ j ≤ k + 9) → M' j = M j) ∧ (M' k 1 = M k 1 + 1 ∧ ∀ x, x ≠ 1 → M' k x = M k x) ∧
  (∀ i, i ≠ M k 1 → M' (k + 1) i = M (k + 1) i ∧ M' (k + 2) i = M (k + 2) i ∧ M' (k + 3) i = M (k + 3) i ∧ M' (k + 4) i = M (k + 4) i ∧ M' (k + 5) i = M (k + 5) i ∧ M' (k + 7) i = M (k + 7) i ∧ M' (k + 8) i = M (k + 8) i ∧ M' (k + 9) i = M (k + 9) i) ∧
  (∀ i, ¬ (M k 1 * 3 ≤ i ∧ i < M k 1 * 3 + n) → M' (k + 6) i = M (k + 6) i) ∧
  (M' (k + 1) (M k 1) = kind ∧ M' (k + 2) (M k 1) = t ∧ M' (k + 3) (M k 1) = label ∧ M' (k + 4) (M k 1) = smW (M (k + 4)) a n.toNat ∧ M' (k + 5) (M k 1) = n) ∧
  (∀ j, 0 ≤ j → j < n → M' (k + 6) (M k 1 * 3 + j) = a j) ∧
  M' (k + 7) (M k 1) = orS (M (k + 7)) a own n.toNat ∧ M' (k + 8) (M k 1) = orS (M (k + 8)) a (if t = 0 then own else 0) n.toNat ∧ M' (k + 9) (M k 1) = fkS (M (k + 9)) a (if kind = 5 then 1 else 0) n.toNat
section CAD
variable {e : yE} {d k : Nat} {M : xM}
theorem fkS_01 {f a : Int → Int} {x : Int} (hx : x = 0 ∨ x = 1) : ∀ n : Nat, fkS f a x n = 0 ∨ fkS f a x n = 1 := by
  intro n
  cases n with
  | zero => exact hx
  | succ n =>
    show (if fkS f a x n ≠ 0 then (1 : Int) else if f (a n) = 0 then 0 else 1) = 0 ∨ (if fkS f a x n ≠ 0 then (1 : Int) else if f (a n) = 0 then 0 else 1) = 1
    by_cases z : fkS f a x n ≠ 0
    · rw [if_pos z]; exact Or.inr rfl
    · rw [if_neg z]
      by_cases y : f (a n) = 0
      · rw [if_pos y]; exact Or.inl rfl
      · rw [if_neg y]; exact Or.inr rfl
theorem s_addT {kind t label n : Int} {a : Int → Int} {Q : Int → xM → Prop} (hs : CSh e) (hk : XSh5 k e) (hk8 : k = 8 ∨ k = 18) (hN : 0 ≤ M k 1 ∧ M k 1 ≤ 300) (hn : 0 ≤ n ∧ n ≤ 3) (h58 : ∀ j, 0 ≤ j → j < n → M 58 j = a j) (ha : ∀ j, 0 ≤ j → j < n → 0 ≤ a j ∧ a j < M k 1) (hw : ∀ i, 0 ≤ i → i < M k 1 → 0 ≤ M (k + 4) i ∧ M (k + 4) i ≤ 1000) (hk0 : rg (M k 0)) (hkd : rg kind) (ht : rg t) (hf : ∀ i, 0 ≤ i → i < M k 1 → rg (M (k + 9) i))
    (h0 : (M k 1 = 300 ∨ M k 0 < smW (M (k + 4)) a n.toNat) → Q (-1) M)
    (h1 : M k 1 < 300 → smW (M (k + 4)) a n.toNat ≤ M k 0 → ∀ M', adT k M M' kind t label n (if kind = 1 ∨ kind = 2 then xshl32 1 label else 0) a → Q (M k 1) M') : C_Tm_add e (d + 2) k kind t label 58 3 n M Q := by
  have hyA := caa_58 hs
  have hsm : ∀ x : Nat, (x : Int) ≤ n → 1 ≤ smW (M (k + 4)) a x ∧ smW (M (k + 4)) a x ≤ 1 + 1000 * x := by
    intro x
    induction x with
    | zero => intro _; show (1 : Int) ≤ 1 ∧ (1 : Int) ≤ 1 + 1000 * ((0 : Nat) : Int); omega
    | succ x ih =>
      intro hx
      have := ih (by omega)
      have ax := ha x (by omega) (by omega)
      have := hw (a x) ax.1 ax.2
      show 1 ≤ smW (M (k + 4)) a x + M (k + 4) (a x) ∧ smW (M (k + 4)) a x + M (k + 4) (a x) ≤ 1 + 1000 * ((x + 1 : Nat) : Int)
      omega
  -- the parts are joined
  have fin : ∀ (own W : Int), M k 1 < 300 → W = smW (M (k + 4)) a n.toNat → W ≤ M k 0 → own = (if kind = 1 ∨ kind = 2 then xshl32 1 label else 0) → C_Tm_add_72 e (d + 1) k 58 3 kind t label n W own M Q := by
    intro own W hlt hW hWk how
    refine c_Tm_add_72 hs hk hyA ⟨by omega, fun M1 e1 => ?_⟩
    have q1 : M1 k 1 = M k 1 := by rw [e1, xrd (by omega)]
    rw [q1]
    refine ⟨by omega, fun M2 e2 => ?_⟩
    have q2 : M2 k 1 = M k 1 := by rw [e2, xrd (by omega), q1]
    rw [q2]
    refine ⟨by omega, fun M3 e3 => ?_⟩
    have q3 : M3 k 1 = M k 1 := by rw [e3, xrd (by omega), q2]
    rw [q3]
    refine ⟨by omega, fun M4 e4 => ?_⟩
    have q4 : M4 k 1 = M k 1 := by rw [e4, xrd (by omega), q3]
    rw [q4]
    refine ⟨by omega, fun M5 e5 => ?_⟩
    have q5 : M5 k 1 = M k 1 := by rw [e5, xrd (by omega), q4]
    rw [q5]
    refine ⟨by omega, fun M6 e6 => ?_⟩
    have q6 : M6 k 1 = M k 1 := by rw [e6, xrd (by omega), q5]
    rw [q6]
    obtain ⟨N, eN⟩ : ∃ N, N = M k 1 := ⟨_, rfl⟩
    rw [← eN] at e1 e2 e3 e4 e5 e6 q6 ⊢
    -- what lies there before the parts
    have c6 : (∀ j, ¬ (k < j ∧ j ≤ k + 9) → M6 j = M j) ∧ (∀ i, i ≠ N → M6 (k + 1) i = M (k + 1) i ∧ M6 (k + 2) i = M (k + 2) i ∧ M6 (k + 3) i = M (k + 3) i ∧ M6 (k + 4) i = M (k + 4) i ∧ M6 (k + 5) i = M (k + 5) i ∧ M6 (k + 7) i = M (k + 7) i) ∧ M6 (k + 6) = M (k + 6) ∧ M6 (k + 8) = M (k + 8) ∧ M6 (k + 9) = M (k + 9) ∧ (M6 (k + 1) N = kind ∧ M6 (k + 2) N = t ∧ M6 (k + 3) N = label ∧ M6 (k + 4) N = W ∧ M6 (k + 5) N = n ∧ M6 (k + 7) N = own) := by
      refine ⟨fun j hj => ?_, fun i hi => ⟨?_, ?_, ?_, ?_, ?_, ?_⟩, ?_, ?_, ?_, ?_, ?_, ?_, ?_, ?_, ?_⟩
      · rw [e6, xrd (by omega), e5, xrd (by omega), e4, xrd (by omega), e3, xrd (by omega), e2, xrd (by omega), e1, xrd (by omega)]
      · rw [e6, xrd (by omega), e5, xrd (by omega), e4, xrd (by omega), e3, xrd (by omega), e2, xrd (by omega), e1, xri hi]
      · rw [e6, xrd (by omega), e5, xrd (by omega), e4, xrd (by omega), e3, xrd (by omega), e2, xri hi, e1, xrd (by omega)]
      · rw [e6, xrd (by omega), e5, xrd (by omega), e4, xrd (by omega), e3, xri hi, e2, xrd (by omega), e1, xrd (by omega)]
      · rw [e6, xrd (by omega), e5, xrd (by omega), e4, xri hi, e3, xrd (by omega), e2, xrd (by omega), e1, xrd (by omega)]
      · rw [e6, xrd (by omega), e5, xri hi, e4, xrd (by omega), e3, xrd (by omega), e2, xrd (by omega), e1, xrd (by omega)]
      · rw [e6, xri hi, e5, xrd (by omega), e4, xrd (by omega), e3, xrd (by omega), e2, xrd (by omega), e1, xrd (by omega)]
      · rw [e6, xrd (by omega), e5, xrd (by omega), e4, xrd (by omega), e3, xrd (by omega), e2, xrd (by omega), e1, xrd (by omega)]
      · rw [e6, xrd (by omega), e5, xrd (by omega), e4, xrd (by omega), e3, xrd (by omega), e2, xrd (by omega), e1, xrd (by omega)]
      · rw [e6, xrd (by omega), e5, xrd (by omega), e4, xrd (by omega), e3, xrd (by omega), e2, xrd (by omega), e1, xrd (by omega)]
      · rw [e6, xrd (by omega), e5, xrd (by omega), e4, xrd (by omega), e3, xrd (by omega), e2, xrd (by omega), e1, xrs]
      · rw [e6, xrd (by omega), e5, xrd (by omega), e4, xrd (by omega), e3, xrd (by omega), e2, xrs]
      · rw [e6, xrd (by omega), e5, xrd (by omega), e4, xrd (by omega), e3, xrs]
      · rw [e6, xrd (by omega), e5, xrd (by omega), e4, xrs]
      · rw [e6, xrd (by omega), e5, xrs]
      · rw [e6, xrs]
    obtain ⟨a1, a2, a3, a4, a5, a6⟩ := c6
    clear e1 e2 e3 e4 e5 e6 q1 q2 q3 q4 q5
    -- one part after the other
    have loop : ∀ (s2 : Int), s2 = (if t = 0 then own else 0) → C_Tm_add_155 e (d + 1) k 58 3 kind n N s2 M6 Q := by
      intro s2 hs2
      have key : ∀ (j x : Nat) (M9 : xM), (x : Int) + j = n → (∀ j, ¬ (k < j ∧ j ≤ k + 9) → M9 j = M j) → (∀ i, i ≠ N → M9 (k + 1) i = M (k + 1) i ∧ M9 (k + 2) i = M (k + 2) i ∧ M9 (k + 3) i = M (k + 3) i ∧ M9 (k + 4) i = M (k + 4) i ∧ M9 (k + 5) i = M (k + 5) i ∧ M9 (k + 7) i = M (k + 7) i ∧ M9 (k + 8) i = M (k + 8) i ∧ M9 (k + 9) i = M (k + 9) i) → (∀ i, ¬ (N * 3 ≤ i ∧ i < N * 3 + x) → M9 (k + 6) i = M (k + 6) i) → (M9 (k + 1) N = kind ∧ M9 (k + 2) N = t ∧ M9 (k + 3) N = label ∧ M9 (k + 4) N = W ∧ M9 (k + 5) N = n) → (∀ i, 0 ≤ i → i < (x : Int) → M9 (k + 6) (N * 3 + i) = a i) → M9 (k + 7) N = orS (M (k + 7)) a own x → M9 (k + 8) N = orS (M (k + 8)) a s2 x → M9 (k + 9) N = fkS (M (k + 9)) a (if kind = 5 then 1 else 0) x → C_Tm_add_178 e (d + 1) k 58 3 n x M9 Q := by
        intro j
        induction j with
        | zero =>
          intro x M9 hx b1 b2 b3 b4 b5 b6 b7 b8
          have qk : M9 k = M k := b1 k (by omega)
          refine c_Tm_add_178 hs hk hyA ⟨⟨⟨by omega, by omega⟩, ⟨by omega, by omega⟩⟩, fun _ M10 e10 => ?_, fun z => absurd (by omega) z⟩
          have hxn : n.toNat = x := by omega
          rw [show M10 k 1 - 1 = M k 1 by rw [e10, xrs, qk]; omega]
          refine h1 (by omega) (by rw [← hW]; exact hWk) M10 ?_
          rw [← how]
          unfold adT
          rw [← eN, hxn]
          have f : ∀ q, q ≠ k → M10 q = M9 q := fun q hq => by rw [e10, xrd hq]
          refine ⟨fun q hq => by rw [f q (by omega)]; exact b1 q (by omega), ⟨by rw [e10, xrs, qk, ← eN], fun y hy => by rw [e10, xri hy, qk]⟩, fun i hi => ?_, fun i hi => by rw [f (k + 6) (by omega)]; exact b3 i (by omega), ?_, fun i i0 i1 => by rw [f (k + 6) (by omega)]; exact b5 i i0 (by omega), by rw [f (k + 7) (by omega)]; exact b6, by rw [f (k + 8) (by omega), ← hs2]; exact b7, by rw [f (k + 9) (by omega)]; exact b8⟩
          · rw [f (k + 1) (by omega), f (k + 2) (by omega), f (k + 3) (by omega), f (k + 4) (by omega), f (k + 5) (by omega), f (k + 7) (by omega), f (k + 8) (by omega), f (k + 9) (by omega)]; exact b2 i hi
          · rw [f (k + 1) (by omega), f (k + 2) (by omega), f (k + 3) (by omega), f (k + 4) (by omega), f (k + 5) (by omega)]
            exact ⟨b4.1, b4.2.1, b4.2.2.1, by rw [b4.2.2.2.1, hW, hxn], b4.2.2.2.2⟩
        | succ j ih =>
          intro x M9 hx b1 b2 b3 b4 b5 b6 b7 b8
          have qk : M9 k 1 = N := by rw [b1 k (by omega), eN]
          have q58 : M9 58 x = a x := by rw [b1 58 (by omega)]; exact h58 x (by omega) (by omega)
          have ax := ha x (by omega) (by omega)
          have axN : a x ≠ N := by omega
          refine c_Tm_add_178 hs hk hyA ⟨⟨⟨by omega, by omega⟩, ⟨by omega, by omega⟩⟩, fun z => absurd z (by omega), fun _ => ⟨by omega, c_Tm_join (c_Tm_join_0 hs hk ?_)⟩⟩
          rw [q58, qk]
          refine ⟨by omega, fun L1 l1 => ?_⟩
          have p1 : L1 k 1 = N := by rw [l1, xrd (by omega), qk]
          rw [p1]
          refine ⟨by omega, by omega, by omega, fun L2 l2 => ?_⟩
          have p2 : L2 k 1 = N := by rw [l2, xrd (by omega), p1]
          rw [p2]
          refine ⟨by omega, by omega, by omega, fun L3 l3 => ?_⟩
          have p3 : L3 k 1 = N := by rw [l3, xrd (by omega), p2]
          rw [p3]
          refine ⟨by omega, ?_⟩
          have v7 : L2 (k + 7) N = orS (M (k + 7)) a own (x + 1) := by
            rw [l2, xrs, l1, xrd (by omega), b6, (b2 (a x) axN).2.2.2.2.2.1]; rfl
          have v8 : L3 (k + 8) N = orS (M (k + 8)) a s2 (x + 1) := by
            rw [l3, xrs, l2, xrd (by omega), l1, xrd (by omega), b7, (b2 (a x) axN).2.2.2.2.2.2.1]; rfl
          have v9 : L3 (k + 9) N = fkS (M (k + 9)) a (if kind = 5 then 1 else 0) x := by
            rw [l3, xrd (by omega), l2, xrd (by omega), l1, xrd (by omega)]; exact b8
          have v9a : L3 (k + 9) (a x) = M (k + 9) (a x) := by
            rw [l3, xrd (by omega), l2, xrd (by omega), l1, xrd (by omega)]; exact (b2 (a x) axN).2.2.2.2.2.2.2
          have h01 := fkS_01 (f := M (k + 9)) (a := a) (x := if kind = 5 then 1 else 0) (by by_cases w : kind = 5; (rw [if_pos w]; exact Or.inr rfl); (rw [if_neg w]; exact Or.inl rfl)) x
          -- all the same but the last
          have next : ∀ (v : Int) (L4 : xM), L4 = xup L3 (k + 9) N v → v = fkS (M (k + 9)) a (if kind = 5 then 1 else 0) (x + 1) → C_Tm_add_178 e (d + 1) k 58 3 n ((x : Int) + 1) L4 Q := by
            intro v L4 l4 hv
            have g : ∀ q, q ≠ k + 6 → q ≠ k + 7 → q ≠ k + 8 → q ≠ k + 9 → L4 q = M9 q := fun q y1 y2 y3 y4 => by rw [l4, xrd y4, l3, xrd y3, l2, xrd y2, l1, xrd y1]
            have g6 : ∀ i, L4 (k + 6) i = if i = N * 3 + x then a x else M9 (k + 6) i := fun i => by
              rw [l4, xrd (by omega), l3, xrd (by omega), l2, xrd (by omega), l1]
              by_cases w : i = N * 3 + x
              · rw [w, xrs, if_pos rfl]
              · rw [xri w, if_neg w]
            have g7 : ∀ i, i ≠ N → L4 (k + 7) i = M9 (k + 7) i := fun i hi => by rw [l4, xrd (by omega), l3, xrd (by omega), l2, xri hi, l1, xrd (by omega)]
            have g8 : ∀ i, i ≠ N → L4 (k + 8) i = M9 (k + 8) i := fun i hi => by rw [l4, xrd (by omega), l3, xri hi, l2, xrd (by omega), l1, xrd (by omega)]
            have g9 : ∀ i, i ≠ N → L4 (k + 9) i = M9 (k + 9) i := fun i hi => by rw [l4, xri hi, l3, xrd (by omega), l2, xrd (by omega), l1, xrd (by omega)]
            refine ih (x + 1) L4 (by omega) (fun q hq => by rw [g q (by omega) (by omega) (by omega) (by omega)]; exact b1 q hq) (fun i hi => ?_) (fun i hi => ?_) ?_ (fun i i0 i1 => ?_) ?_ ?_ ?_
            · obtain ⟨c1, c2, c3, c4, c5, c7, c8, c9⟩ := b2 i hi
              rw [g (k + 1) (by omega) (by omega) (by omega) (by omega), g (k + 2) (by omega) (by omega) (by omega) (by omega), g (k + 3) (by omega) (by omega) (by omega) (by omega), g (k + 4) (by omega) (by omega) (by omega) (by omega), g (k + 5) (by omega) (by omega) (by omega) (by omega), g7 i hi, g8 i hi, g9 i hi]
              exact ⟨c1, c2, c3, c4, c5, c7, c8, c9⟩
            · rw [g6, if_neg (by omega)]; exact b3 i (by omega)
            · rw [g (k + 1) (by omega) (by omega) (by omega) (by omega), g (k + 2) (by omega) (by omega) (by omega) (by omega), g (k + 3) (by omega) (by omega) (by omega) (by omega), g (k + 4) (by omega) (by omega) (by omega) (by omega), g (k + 5) (by omega) (by omega) (by omega) (by omega)]; exact b4
            · rw [g6]
              by_cases w : i = x
              · rw [w, if_pos rfl]
              · rw [if_neg (by omega)]; exact b5 i i0 (by omega)
            · rw [l4, xrd (by omega), l3, xrd (by omega)]; exact v7
            · rw [l4, xrd (by omega)]; exact v8
            · rw [l4, xrs]; exact hv
          refine ⟨by rw [v9]; rcases h01 with w | w <;> (rw [w]; exact ⟨by omega, by omega⟩), fun z => ⟨by omega, fun L4 l4 => next 1 L4 l4 ?_⟩, fun z => ⟨by omega, by rw [v9a]; exact hf (a x) ax.1 ax.2, fun y => ⟨by omega, fun L4 l4 => next 0 L4 l4 ?_⟩, fun y => ⟨by omega, fun L4 l4 => next 1 L4 l4 ?_⟩⟩⟩
          · rw [v9] at z
            show (1 : Int) = if fkS (M (k + 9)) a (if kind = 5 then 1 else 0) x ≠ 0 then 1 else _
            rw [if_pos z]
          · rw [v9] at z; rw [v9a] at y
            show (0 : Int) = if fkS (M (k + 9)) a (if kind = 5 then 1 else 0) x ≠ 0 then 1 else if M (k + 9) (a x) = 0 then 0 else 1
            rw [if_neg z, if_pos y]
          · rw [v9] at z; rw [v9a] at y
            show (1 : Int) = if fkS (M (k + 9)) a (if kind = 5 then 1 else 0) x ≠ 0 then 1 else if M (k + 9) (a x) = 0 then 0 else 1
            rw [if_neg z, if_neg y]
      refine c_Tm_add_155 hs hk hyA ⟨by omega, fun M7 e7 => ?_⟩
      have q7 : M7 k 1 = N := by rw [e7, xrd (by omega)]; exact q6
      rw [q7]
      have go : ∀ (v : Int) (M8 : xM), M8 = xup M7 (k + 9) N v → v = (if kind = 5 then 1 else 0) → C_Tm_add_178 e (d + 1) k 58 3 n 0 M8 Q := by
        intro v M8 e8 hv
        refine key n.toNat 0 M8 (by omega) (fun q hq => by rw [e8, xrd (by omega), e7, xrd (by omega)]; exact a1 q hq) (fun i hi => ?_) (fun i _ => by rw [e8, xrd (by omega), e7, xrd (by omega), a3]) ?_ (fun i i0 i1 => by omega) ?_ ?_ ?_
        · obtain ⟨c1, c2, c3, c4, c5, c7⟩ := a2 i hi
          refine ⟨?_, ?_, ?_, ?_, ?_, ?_, ?_, ?_⟩
          · rw [e8, xrd (by omega), e7, xrd (by omega)]; exact c1
          · rw [e8, xrd (by omega), e7, xrd (by omega)]; exact c2
          · rw [e8, xrd (by omega), e7, xrd (by omega)]; exact c3
          · rw [e8, xrd (by omega), e7, xrd (by omega)]; exact c4
          · rw [e8, xrd (by omega), e7, xrd (by omega)]; exact c5
          · rw [e8, xrd (by omega), e7, xrd (by omega)]; exact c7
          · rw [e8, xrd (by omega), e7, xri hi, a4]
          · rw [e8, xri hi, e7, xrd (by omega), a5]
        · rw [e8, xrd (by omega), e7, xrd (by omega), xrd (show k + 2 ≠ k + 9 by omega), xrd (show k + 2 ≠ k + 8 by omega), xrd (show k + 3 ≠ k + 9 by omega), xrd (show k + 3 ≠ k + 8 by omega), xrd (show k + 4 ≠ k + 9 by omega), xrd (show k + 4 ≠ k + 8 by omega), xrd (show k + 5 ≠ k + 9 by omega), xrd (show k + 5 ≠ k + 8 by omega)]
          exact ⟨a6.1, a6.2.1, a6.2.2.1, a6.2.2.2.1, a6.2.2.2.2.1⟩
        · rw [e8, xrd (by omega), e7, xrd (by omega)]; exact a6.2.2.2.2.2
        · rw [e8, xrd (by omega), e7, xrs]; rfl
        · rw [e8, xrs, hv]; rfl
      refine ⟨hkd, fun z => ⟨by omega, fun M8 e8 => go 0 M8 e8 (by rw [if_neg z])⟩, fun z => ⟨by omega, fun M8 e8 => go 1 M8 e8 (by rw [if_pos (Classical.not_not.mp z)])⟩⟩
    exact ⟨ht, fun z => loop 0 (by rw [if_neg z]), fun z => loop own (by rw [if_pos (Classical.not_not.mp z)])⟩
  have key : ∀ (j x : Nat), (x : Int) + j = n → C_Tm_add_6 e (d + 1) k 58 3 kind t label n (smW (M (k + 4)) a x) x M Q := by
    intro j
    induction j with
    | zero =>
      intro x hx
      have hxn : n.toNat = x := by omega
      have hb := hsm x (by omega)
      refine c_Tm_add_6 hs hk hyA ⟨⟨⟨by omega, by omega⟩, ⟨by omega, by omega⟩⟩, fun _ => ⟨⟨by omega, by omega⟩, fun z => h0 (Or.inl z), fun z => ⟨⟨⟨by omega, by omega⟩, hk0⟩, fun y => ⟨hkd, fun w => ?_, fun w => ⟨hkd, fun u => ?_, fun u => ?_⟩⟩, fun y => h0 (Or.inr (by rw [hxn]; omega))⟩⟩, fun z => absurd (by omega) z⟩
      · exact fin _ _ (by omega) (by rw [hxn]) y (by rw [if_pos (Or.inl w)])
      · exact fin _ _ (by omega) (by rw [hxn]) y (by rw [if_neg (fun v => by rcases v with v | v; exact w v; exact u v)])
      · exact fin _ _ (by omega) (by rw [hxn]) y (by rw [if_pos (Or.inr (Classical.not_not.mp u))])
    | succ j ih =>
      intro x hx
      have ax := ha x (by omega) (by omega)
      refine c_Tm_add_6 hs hk hyA ⟨⟨⟨by omega, by omega⟩, ⟨by omega, by omega⟩⟩, fun z => absurd z (by omega), fun _ => ⟨by omega, ?_⟩⟩
      rw [h58 x (by omega) (by omega)]
      exact ⟨by omega, ih (x + 1) (by omega)⟩
  exact c_Tm_add (c_Tm_add_0 hs hk hyA (key n.toNat 0 (by omega)))
end CAD
