/-! ===== the class: putParts, whole ===== -/
section CPT2
variable {e : yE} {d cs cl : Nat} {D M : xM} {x1 x2 x3 : Int}
/-- the cells passed -/
def psd (M : xM) (A : List (Int × Int)) : Prop := ∀ (i : Nat) p, A[i]? = some p → (0 ≤ M 44 i ∧ M 44 i < M 34 0) ∧ vL M 1 (M 44 i) = p.1 ∧ vL M 2 (M 44 i) = p.2
theorem s_pp14 {Q : Int → yE → xM → Prop} {A X : List (Int × Int)} (hs : CSh e) (h34 : M 34 0 ≤ 10000000) (hA : ∀ p ∈ A, p.1 ≠ x2) (hX : X = [] ∨ ∃ y B', X = (x2, y) :: B') (hAl : A.length ≤ 119) (hr : ∀ p ∈ A ++ X, rg p.1) (hx : rg x2)
    (h : ∀ M' x4, stp e M cs cl e M' cs cl → M' 30 = M 30 → M' 34 = M 34 → M' 29 = M 29 → (∀ j x, (j = 1 ∨ j = 2 ∨ j = 3) → vS M' j x = vS M j x) → psd M' A → chL M' X x4 → C_Bu_putParts_68 e d x1 x3 x4 A.length M' Q) :
    ∀ (A2 dn : List (Int × Int)) (M1 : xM) (x4 : Int), A = dn ++ A2 → stp e M cs cl e M1 cs cl → M1 30 = M 30 → M1 34 = M 34 → M1 29 = M 29 → (∀ j x, (j = 1 ∨ j = 2 ∨ j = 3) → vS M1 j x = vS M j x) → psd M1 dn → chL M1 (A2 ++ X) x4 → C_Bu_putParts_14 e d x1 x2 x3 x4 dn.length M1 Q := by
  intro A2
  induction A2 with
  | nil =>
    intro dn M1 x4 hd s1 h30 h341 h29 hvS hps hc
    rw [List.append_nil] at hd
    subst hd
    rw [List.nil_append] at hc
    have hgo := h M1 x4 s1 h30 h341 h29 hvS hps hc
    have hrg := chL_rg X x4 hc
    rcases hX with hX | ⟨y, B', hX⟩
    · subst hX
      have hc : x4 = -1 := hc
      exact c_Bu_putParts_14 hs ⟨⟨by omega, by omega⟩, fun _ => hgo, fun _ => ⟨⟨by omega, by omega⟩, fun _ => hgo, fun z => absurd hc z⟩⟩
    · subst hX
      obtain ⟨a, b, c1, d1⟩ := hc
      obtain ⟨q1, n1, hq1, hn1, hv1⟩ := hpL s1.1.1 (j := 1) (by omega)
      rw [h341] at a
      refine c_Bu_putParts_14 hs ⟨⟨by omega, by omega⟩, fun _ => hgo, fun _ => ⟨⟨by omega, by omega⟩, fun _ => hgo, fun _ => ⟨q1, n1, hq1, ⟨a.1, by rw [h341] at hn1; omega⟩, ?_⟩⟩⟩
      rw [hv1, b]
      exact ⟨⟨hx, hx⟩, fun _ => hgo, fun z => absurd rfl z⟩
  | cons p A2 ih =>
    intro dn M1 x4 hd s1 h30 h341 h29 hvS hps hc
    have hmem : p ∈ A := by rw [hd]; simp
    have hdl : dn.length + 1 ≤ A.length := by rw [hd, List.length_append, List.length_cons]; omega
    obtain ⟨a, b, c1, d1⟩ := hc
    obtain ⟨q1, n1, hq1, hn1, hv1⟩ := hpL s1.1.1 (j := 1) (by omega)
    have a2 : x4 < M 34 0 := by rw [← h341]; exact a.2
    refine c_Bu_putParts_14 hs ⟨⟨by omega, by omega⟩, fun z => absurd z (by omega), fun _ => ⟨⟨by omega, by omega⟩, fun z => absurd z (by omega), fun _ => ⟨q1, n1, hq1, ⟨a.1, by omega⟩, ?_⟩⟩⟩
    rw [hv1, b]
    refine ⟨⟨hr p (List.mem_append_left _ hmem), hx⟩, fun z => absurd z (hA p hmem), fun _ => ⟨by omega, fun M2 e2 => ?_⟩⟩
    obtain ⟨u1, u2⟩ := stp_up (k := 44) (i := (dn.length : Int)) (v := x4) hs s1.1 (Or.inr rfl)
    rw [← e2] at u1 u2
    obtain ⟨q3, n3, hq3, hn3, hv3⟩ := hpL u1.1.1 (j := 3) (by omega)
    have f34 : M2 34 = M1 34 := by rw [e2, xrd (by decide)]
    refine ⟨q3, n3, hq3, ⟨a.1, by rw [f34] at hn3; omega⟩, ?_⟩
    rw [hv3, (u2 3 _ (by omega)).1]
    have := ih (dn ++ [p]) M2 (vL M1 3 x4) (by rw [hd]; simp) (stp_trans s1 u1) (by rw [e2, xrd (by decide)]; exact h30) (by rw [f34]; exact h341) (by rw [e2, xrd (by decide)]; exact h29) (fun j x hj => by rw [(u2 j x hj).2]; exact hvS j x hj) ?_ ?_
    · rw [List.length_append, List.length_singleton] at this
      exact this
    · intro i p' hp'
      by_cases hi : i < dn.length
      · rw [List.getElem?_append_left hi] at hp'
        obtain ⟨w1, w2, w3⟩ := hps i p' hp'
        have e44 : M2 44 i = M1 44 i := by rw [e2, xri (by omega)]
        rw [e44, (u2 1 _ (by omega)).1, (u2 2 _ (by omega)).1, f34]
        exact ⟨w1, w2, w3⟩
      · have hi2 : i = dn.length := by
          rcases Nat.lt_or_ge i (dn ++ [p]).length with z | z
          · rw [List.length_append, List.length_singleton] at z; omega
          · rw [List.getElem?_eq_none z] at hp'; cases hp'
        subst hi2
        rw [List.getElem?_append_right (Nat.le_refl _), Nat.sub_self] at hp'
        have hp' : p = p' := Option.some.inj hp'
        subst hp'
        have e44 : M2 44 dn.length = x4 := by rw [e2, xrs]
        rw [e44, (u2 1 _ (by omega)).1, (u2 2 _ (by omega)).1, f34]
        exact ⟨a, b, c1⟩
    · exact chL_gr u1.2.2.2.2 _ _ d1
theorem s_putParts {Q : Int → yE → xM → Prop} {A X l : List (Int × Int)} {n : Nat} {f : Int → Int} (hw : wfP D) (hs : CSh e) (hP : hpP e M cs cl) (hC : pCl M D) (h1 : 0 ≤ x1 ∧ x1 < M 30 0) (hA : ∀ p ∈ A, p.1 ≠ x2) (hX : X = [] ∨ ∃ y B', X = (x2, y) :: B') (hAl : A.length ≤ 119) (hr : ∀ p ∈ A ++ X, rg p.1) (hx : rg x2) (hc : chL M (A ++ X) (vS M 2 x1)) (hl : chL M l (vS M 3 x1)) (hn : n ≤ 3) (h13 : M 29 13 = n) (hf : ∀ i : Int, 0 ≤ i → i < n → isP D (f i)) (h43 : ∀ i : Int, 0 ≤ i → i < n → M 43 i = f i) (hsz : M 34 0 < 499500) (hsz3 : M 30 0 < 8000)
    (h : ∀ e' M' cs' cl', stp e M cs cl e' M' cs' cl' → M' 30 0 = M 30 0 + 1 → M' 34 0 = M 34 0 + A.length + (pEr D x3 f n 0).length + (nEr D x3 f n 0).length → vS M' 1 (M 30 0) = vS M 1 x1 → chL M' (A ++ (pEr D x3 f n 0 ++ X.tail)) (vS M' 2 (M 30 0)) → chL M' (nEr D x3 f n 0 ++ l) (vS M' 3 (M 30 0)) → Q (M 30 0) e' M') : C_Bu_putParts e (d + 4) x1 x2 x3 M Q := by
  obtain ⟨q2, n2, hq2, hn2, hv2⟩ := hpS hP.1 (j := 2) (by omega)
  refine c_Bu_putParts (c_Bu_putParts_0 hs ⟨q2, n2, hq2, ⟨h1.1, by omega⟩, ?_⟩)
  rw [hv2]
  have h14 := s_pp14 (d := d + 3) (x1 := x1) (x3 := x3) (Q := Q) (cs := cs) (cl := cl) (M := M) hs (by omega) hA hX hAl hr hx ?_ A [] M (vS M 2 x1) rfl (stp_refl hP) rfl rfl rfl (fun _ _ _ => rfl) (fun i p hp => by simp at hp) hc
  · exact h14
  · intro M1 x4 s1 h30 h34 h29 hvS hps hcX
    have hC1 := pCl_fr hs hC s1.2.2.2.1
    -- behind the place
    have go : ∀ s0, chL M1 X.tail s0 → C_Bu_putParts_88 e (d + 3) x1 x3 A.length s0 M1 Q := by
      intro s0 hs0
      obtain ⟨q3, n3, hq3, hn3, hv3⟩ := hpS s1.1.1 (j := 3) (by omega)
      rw [h30] at hn3
      refine c_Bu_putParts_88 hs ⟨q3, n3, hq3, ⟨h1.1, by omega⟩, fun M2 e2 => ?_⟩
      rw [hv3, hvS 3 _ (by omega)] at e2
      obtain ⟨u1, u2⟩ := stp_up (k := 29) (i := 15) (v := vS M 3 x1) hs s1.1 (Or.inl ⟨rfl, rfl⟩)
      rw [← e2] at u1 u2
      have s2 := stp_trans s1 u1
      have hC2 := pCl_fr hs hC s2.2.2.2.1
      have f13 : M2 29 13 = n := by rw [e2, xri (by decide), h29]; exact h13
      have f30 : M2 30 = M 30 := by rw [e2, xrd (by decide)]; exact h30
      have f34 : M2 34 = M 34 := by rw [e2, xrd (by decide)]; exact h34
      have f44 : M2 44 = M1 44 := by rw [e2, xrd (by decide)]
      have f43 : M2 43 = M 43 := frP_c hs s2.2.2.2.1 (by decide) (by decide) (nC_43 hs)
      rw [f13]
      refine s_pp111 (cs := cs) (n := n) (B := X.tail) (l := l) (f := f) hw hn hf n e cl M2 s0 hs s2.1 hC2 (Nat.le_refl _) (by rw [f34]; omega) (fun i h0 h1 => by rw [f43]; exact h43 i h0 h1) ?_ ?_ ?_
      · rw [Nat.sub_self]; exact chL_gr u1.2.2.2.2 _ _ hs0
      · rw [Nat.sub_self]
        have : M2 29 15 = vS M 3 x1 := by rw [e2, xrs]
        rw [this]; exact chL_gr s2.2.2.2.2 _ _ hl
      · intro e3 M3 cl3 y g1 g2 g3 g4 g5 g6
        have hs3 := hs.le g1.2.1
        have s3 := stp_trans s2 g1
        have hgr := g1.2.2.2.2
        have hszn : M3 34 0 = M 34 0 + (pEr D x3 f n 0).length + (nEr D x3 f n 0).length := by
          rw [Nat.sub_self] at g6
          rw [f34] at g6
          have z1 : (pEr D x3 f 0 n).length = 0 := rfl
          have z2 : (nEr D x3 f 0 n).length = 0 := rfl
          rw [z1, z2] at g6
          omega
        have hpl := pEr_len (D := D) (x := x3) (f := f) n 0
        have hnl : (nEr D x3 f n 0).length ≤ 41 * n := by
          have : ∀ (k : Nat) (j : Int), 0 ≤ j → j + k ≤ n → (nEr D x3 f k j).length ≤ 41 * k := by
            intro k
            induction k with
            | zero => intro j _ _; exact Nat.le_refl _
            | succ k ihk =>
              intro j j0 j1
              unfold nEr
              rw [List.length_append, List.length_map, List.length_reverse]
              have hfj := hf j j0 (by omega)
              have := tl_len hw 40 _ hfj (hw.2 _ hfj).2.1.2
              have := (hw.2 _ hfj).2.1
              have := ihk (j + 1) (by omega) (by omega)
              omega
          exact this n 0 (by omega) (by omega)
        refine s_pp168 (cs := cs) (A := A) (l := nEr D x3 f n 0 ++ l) (r := vS M 1 x1) A.length e3 cl3 M3 y (pEr D x3 f n 0 ++ X.tail) hs3 g1.1 (Nat.le_refl _) (by omega) (by rw [hszn]; omega) (by rw [g2, f30]; exact hsz3) (by rw [g2, f30]; exact h1) ?_ g4 g5 ?_ ?_
        · rw [hgr.2.2.2 1 x1 (by omega) h1.1 (by rw [f30]; exact h1.2), (u2 1 _ (by omega)).2, hvS 1 _ (by omega)]
        · intro i p hi hp
          obtain ⟨w1, w2, w3⟩ := hps i p hp
          rw [h34] at w1
          rw [g3, f44]
          have hg34 := hgr.1
          rw [f34] at hg34
          refine ⟨⟨w1.1, by omega⟩, ?_, ?_⟩
          · rw [hgr.2.1 1 _ (by omega) w1.1 (by rw [f34]; exact w1.2), (u2 1 _ (by omega)).1]; exact w2
          · rw [hgr.2.1 2 _ (by omega) w1.1 (by rw [f34]; exact w1.2), (u2 2 _ (by omega)).1]; exact w3
        · intro e4 M4 cs4 cl4 k1 k2 k3 k4 k5 k6
          rw [g2, f30] at k2 k4 k5 k6 ⊢
          refine h e4 M4 cs4 cl4 (stp_trans s3 k1) k2 (by rw [k3, hszn]; omega) k4 ?_ k6
          rw [List.take_length] at k5
          exact k5
    have hrg := chL_rg X x4 hcX
    rw [h34] at hrg
    rcases hX with hX | ⟨y, B', hX⟩
    · subst hX
      have hc0 : x4 = -1 := hcX
      exact c_Bu_putParts_68 hs ⟨⟨by omega, by omega⟩, fun z => absurd hc0 z, fun _ => go (-1) rfl⟩
    · subst hX
      obtain ⟨a, b, c1, d1⟩ := hcX
      obtain ⟨q3, n3, hq3, hn3, hv3⟩ := hpL s1.1.1 (j := 3) (by omega)
      refine c_Bu_putParts_68 hs ⟨⟨by omega, by omega⟩, fun _ => ⟨q3, n3, hq3, ⟨a.1, by omega⟩, ?_⟩, fun z => absurd (by omega) z⟩
      rw [hv3]
      exact go _ d1
end CPT2
