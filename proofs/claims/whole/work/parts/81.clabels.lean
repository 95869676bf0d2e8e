/-! ===== the class: labels in order; the least that is not there ===== -/
/-- the labels that the builder has at hand -/
def lbl (M : xM) (ks : List Int) : Prop := M 29 11 = ks.length ∧ ∀ (i : Nat) k, ks[i]? = some k → M 42 i = k
/-- only labels change -/
def frK (M M' : xM) : Prop := (∀ j, j ≠ 29 → j ≠ 42 → M' j = M j) ∧ ∀ i, i ≠ 11 → M' 29 i = M 29 i
theorem frK_refl {M : xM} : frK M M := ⟨fun _ _ _ => rfl, fun _ _ => rfl⟩
theorem frK_trans {M M1 M2 : xM} (h : frK M M1) (h2 : frK M1 M2) : frK M M2 := ⟨fun j a b => (h2.1 j a b).trans (h.1 j a b), fun i hi => (h2.2 i hi).trans (h.2 i hi)⟩
theorem frK_up {M : xM} {k : Nat} {i v : Int} (h : (k = 29 ∧ i = 11) ∨ k = 42) : frK M (xup M k i v) := by
  refine ⟨fun j h1 h2 => xrd (fun z => ?_), fun x hx => ?_⟩
  · rcases h with ⟨y, -⟩ | y
    · exact h1 (z.trans y)
    · exact h2 (z.trans y)
  · rcases h with ⟨y, y2⟩ | y
    · subst y; subst y2; exact xri hx
    · subst y; exact congrFun (xrd (by decide)) x
theorem hp_K {e : yE} {M M' : xM} {cs cl : Nat} (hs : CSh e) (hp : hpP e M cs cl) (hf : frK M M') : hpP e M' cs cl ∧ grL M M' := by
  have nC42 : ¬ isC e 42 := nC_a (caa_42 hs) (by decide)
  obtain ⟨a, b, -⟩ := hpC_cg (M' := M') hp.1 (hf.1 30 (by decide) (by decide)) (hf.1 34 (by decide) (by decide)) (fun j hj => hf.1 j (fun z => nC_29 hs (by rw [← z]; exact hj)) (fun z => nC42 (by rw [← z]; exact hj)))
  exact ⟨⟨a, hp.2⟩, b⟩
theorem ins_sp {x : Int} : ∀ (A B : List Int), (∀ a ∈ A, a < x) → ins x (A ++ B) = A ++ ins x B := by
  intro A
  induction A with
  | nil => intro B _; rfl
  | cons a A ih =>
    intro B h
    rw [List.cons_append]
    show (if a < x then a :: ins x (A ++ B) else _) = _
    rw [if_pos (h a (by simp)), ih B (fun y hy => h y (by simp [hy]))]
    rfl
section CLB
variable {e : yE} {d : Nat} {x1 : Int}
theorem s_gL50 {Q : xM → Prop} {M : xM} {A B : List Int} (hs : CSh e) (hl : lbl M (A ++ B)) (hn : (A ++ B).length < 24) (h : ∀ M', frK M M' → lbl M' (A ++ x1 :: B) → Q M') : C_Bu_gatherLabel_50 e d x1 A.length (A ++ B).length M Q := by
  obtain ⟨n, hnn⟩ : ∃ n, n = (A ++ B).length := ⟨_, rfl⟩
  rw [← hnn] at hn ⊢
  obtain ⟨l1, l2⟩ := hl
  rw [← hnn] at l1
  have hAn : A.length ≤ n := by rw [hnn, List.length_append]; omega
  refine for_dn (fun k M' => C_Bu_gatherLabel_50 e d x1 A.length k M' Q) (fun k M' => ∃ kk : Nat, k = kk ∧ A.length ≤ kk ∧ kk ≤ n ∧ frK M M' ∧ M' 29 11 = n ∧ (∀ i : Nat, i < kk → i < n → M' 42 i = M 42 i) ∧ (∀ i : Nat, kk ≤ i → i < n → M' 42 ((i + 1 : Nat) : Int) = M 42 i)) A.length ?_ ?_ n M (by omega) ⟨n, rfl, hAn, Nat.le_refl _, frK_refl, l1, fun _ _ _ => rfl, fun i h1 h2 => by omega⟩
  · rintro k M' ⟨kk, rfl, k1, k2, hf, h11, ha, hb⟩ hlt hgo
    obtain ⟨k0, rfl⟩ : ∃ k0, kk = k0 + 1 := ⟨kk - 1, by omega⟩
    refine c_Bu_gatherLabel_50 hs ⟨⟨⟨by omega, by omega⟩, ⟨by omega, by omega⟩⟩, fun z => absurd z (by omega), fun _ => ⟨by omega, by omega, fun M3 e3 => ?_⟩⟩
    rw [show ((k0 + 1 : Nat) : Int) + (-1 : Int) = ((k0 + 1 : Nat) : Int) - 1 by omega]
    refine hgo M3 ⟨k0, by omega, by omega, by omega, frK_trans hf (by rw [e3]; exact frK_up (Or.inr rfl)), by rw [e3, xrd (by decide)]; exact h11, fun i hi hi2 => ?_, fun i hi hi2 => ?_⟩
    · rw [e3, xri (by omega)]; exact ha i (by omega) hi2
    · by_cases z : i = k0
      · subst z
        rw [e3, xrs, show (((i + 1 : Nat) : Int) - 1) = (i : Int) by omega]
        exact ha i (by omega) hi2
      · rw [e3, xri (by omega)]; exact hb i (by omega) hi2
  · rintro M' ⟨kk, hk, k1, k2, hf, h11, ha, hb⟩
    have hkk : kk = A.length := by omega
    subst hkk
    refine c_Bu_gatherLabel_50 hs ⟨⟨⟨by omega, by omega⟩, ⟨by omega, by omega⟩⟩, fun _ => ⟨by omega, fun M1 e1 M2 e2 => h M2 ?_ ⟨?_, fun i k hk => ?_⟩⟩, fun z => absurd (by omega) z⟩
    · rw [e2, e1]; exact frK_trans (frK_trans hf (frK_up (Or.inr rfl))) (frK_up (Or.inl ⟨rfl, rfl⟩))
    · rw [e2, xrs, e1, xrd (by decide), h11, List.length_append, List.length_cons]
      rw [List.length_append] at hnn
      omega
    · have e42 : M2 42 i = (if i = A.length then x1 else M' 42 i) := by
        rw [e2, xrd (by decide), e1]
        by_cases z : i = A.length
        · rw [if_pos z, z, xrs]
        · rw [if_neg z, xri (by omega)]
      rw [e42]
      by_cases z1 : i < A.length
      · rw [if_neg (by omega), ha i z1 (by omega)]
        rw [List.getElem?_append_left z1] at hk
        exact l2 i k (by rw [List.getElem?_append_left z1]; exact hk)
      · rw [List.getElem?_append_right (by omega)] at hk
        by_cases z2 : i = A.length
        · rw [if_pos z2]
          rw [z2, Nat.sub_self] at hk
          exact Option.some.inj hk
        · rw [if_neg z2]
          rw [show i - A.length = (i - 1 - A.length) + 1 by omega, List.getElem?_cons_succ] at hk
          have hk2 : (A ++ B)[i - 1]? = some k := by rw [List.getElem?_append_right (by omega)]; exact hk
          have hin : i - 1 < n := by
            rcases Nat.lt_or_ge (i - 1) n with z | z
            · exact z
            · rw [List.getElem?_eq_none (by omega)] at hk2; cases hk2
          have := hb (i - 1) (by omega) hin
          rw [show ((i - 1 + 1 : Nat) : Int) = (i : Int) by omega] at this
          rw [this]
          exact l2 (i - 1) k hk2
theorem s_gatherLabel {Q : xM → Prop} {M : xM} {ks : List Int} (hs : CSh e) (hl : lbl M ks) (hn : ks.length < 24) (hx : rg x1) (hr : ∀ k ∈ ks, rg k) (h : ∀ M', frK M M' → lbl M' (ins x1 ks) → Q M') : C_Bu_gatherLabel e (d + 1) x1 M Q := by
  refine c_Bu_gatherLabel (c_Bu_gatherLabel_0 hs ?_)
  have key : ∀ (B A : List Int), ks = A ++ B → (∀ a ∈ A, a < x1) → C_Bu_gatherLabel_2 e d x1 A.length M Q := by
    intro B
    induction B with
    | nil =>
      intro A hk hA
      have h11 := hl.1
      rw [List.append_nil] at hk
      subst hk
      have h50 := s_gL50 (e := e) (d := d) (x1 := x1) (Q := Q) (A := ks) (B := []) hs (by rw [List.append_nil]; exact hl) (by rw [List.append_nil]; exact hn) (fun M' f1 f2 => h M' f1 (by have := ins_sp (x := x1) ks [] hA; rw [List.append_nil] at this; rw [this]; exact f2))
      rw [List.append_nil] at h50
      refine c_Bu_gatherLabel_2 hs ⟨⟨⟨by omega, by omega⟩, ⟨by omega, by omega⟩⟩, fun _ => c_Bu_gatherLabel_26 hs ⟨⟨⟨by omega, by omega⟩, ⟨by omega, by omega⟩⟩, fun _ => ?_, fun z => absurd (by omega) z⟩, fun z => absurd (by omega) z⟩
      rw [h11]; exact h50
    | cons y B ih =>
      intro A hk hA
      have h11 := hl.1
      have hlen : ks.length = A.length + B.length + 1 := by rw [hk, List.length_append, List.length_cons]; omega
      have hy : M 42 A.length = y := hl.2 A.length y (by rw [hk, List.getElem?_append_right (Nat.le_refl _), Nat.sub_self]; rfl)
      have hry := hr y (by rw [hk]; simp)
      refine c_Bu_gatherLabel_2 hs ⟨⟨⟨by omega, by omega⟩, ⟨by omega, by omega⟩⟩, fun z => absurd z (by omega), fun _ => ⟨by omega, ?_⟩⟩
      rw [hy]
      refine ⟨⟨hry, hx⟩, fun z => ?_, fun z => ?_⟩
      · refine c_Bu_gatherLabel_26 hs ⟨⟨⟨by omega, by omega⟩, ⟨by omega, by omega⟩⟩, fun z => absurd z (by omega), fun _ => ⟨by omega, ?_⟩⟩
        rw [hy]
        refine ⟨⟨hry, hx⟩, fun z2 => ?_, fun z2 => ?_⟩
        · rw [h11, hk]
          rw [hk] at hl hn
          refine s_gL50 hs hl hn (fun M' f1 f2 => h M' f1 ?_)
          rw [hk, ins_sp A _ hA]
          have : ins x1 (y :: B) = x1 :: y :: B := by
            show (if y < x1 then _ else if y = x1 then _ else _) = _
            rw [if_neg (by omega), if_neg z2]
          rw [this]; exact f2
        · have z2 : y = x1 := Classical.not_not.mp z2
          refine h M frK_refl ?_
          rw [hk, ins_sp A _ hA]
          have : ins x1 (y :: B) = y :: B := by
            show (if y < x1 then _ else if y = x1 then _ else _) = _
            rw [if_neg (by omega), if_pos z2]
          rw [this, ← hk]; exact hl
      · have := ih (A ++ [y]) (by rw [hk]; simp) (fun a ha => by rcases List.mem_append.mp ha with w | w; exact hA a w; (have : a = y := by simpa using w); omega)
        rw [List.length_append, List.length_singleton] at this
        exact this
  exact key ks [] rfl (by simp)
theorem s_leastAbsent {Q : Int → xM → Prop} {M : xM} {ks : List Int} (hs : CSh e) (hl : lbl M ks) (hn : ks.length ≤ 24) (hr : ∀ k ∈ ks, rg k) (h : Q (lA ks 0) M) : C_Bu_leastAbsent e (d + 1) M Q := by
  refine c_Bu_leastAbsent (c_Bu_leastAbsent_0 hs ?_)
  have h11 := hl.1
  have key : ∀ (B A : List Int) (x : Int), ks = A ++ B → (0 ≤ x ∧ x ≤ A.length) → Q (lA B x) M → C_Bu_leastAbsent_4 e d x A.length M Q := by
    intro B
    induction B with
    | nil =>
      intro A x hk hx hq
      have hlen : ks.length = A.length := by rw [hk, List.append_nil]
      exact c_Bu_leastAbsent_4 hs ⟨⟨⟨by omega, by omega⟩, ⟨by omega, by omega⟩⟩, fun _ => hq, fun z => absurd (by omega) z⟩
    | cons y B ih =>
      intro A x hk hx hq
      have hlen : ks.length = A.length + B.length + 1 := by rw [hk, List.length_append, List.length_cons]; omega
      have hy : M 42 A.length = y := hl.2 A.length y (by rw [hk, List.getElem?_append_right (Nat.le_refl _), Nat.sub_self]; rfl)
      have e1 : (((A ++ [y]).length : Nat) : Int) = (A.length : Int) + 1 := by rw [List.length_append, List.length_singleton]; omega
      unfold lA at hq
      refine c_Bu_leastAbsent_4 hs ⟨⟨⟨by omega, by omega⟩, ⟨by omega, by omega⟩⟩, fun z => absurd z (by omega), fun _ => ⟨by omega, ?_⟩⟩
      rw [hy]
      refine ⟨⟨hr y (by rw [hk]; simp), ⟨by omega, by omega⟩⟩, fun z => ?_, fun z => ?_⟩
      · rw [if_neg z] at hq
        have := ih (A ++ [y]) x (by rw [hk]; simp) (by omega) hq
        rw [e1] at this; exact this
      · rw [if_pos (Classical.not_not.mp z)] at hq
        have := ih (A ++ [y]) (x + 1) (by rw [hk]; simp) (by omega) hq
        rw [e1] at this; exact this
  exact key ks [] 0 rfl (by simp) h
end CLB
