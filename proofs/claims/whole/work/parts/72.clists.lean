/-! ===== the class: lists of places and patterns, of places and names ===== -/
/-- a list of pairs in the Cells of lists -/
def chL (M : xM) : List (Int × Int) → Int → Prop
  | [], c => c = -1
  | x :: l, c => (0 ≤ c ∧ c < M 34 0) ∧ vL M 1 c = x.1 ∧ vL M 2 c = x.2 ∧ chL M l (vL M 3 c)
theorem chL_gr {M M' : xM} (h : grL M M') : ∀ (l : List (Int × Int)) (c : Int), chL M l c → chL M' l c := by
  intro l
  induction l with
  | nil => intro c hc; exact hc
  | cons x l ih =>
    intro c hc
    obtain ⟨a, b, c1, d⟩ := hc
    refine ⟨⟨a.1, by have := h.1; omega⟩, ?_, ?_, ?_⟩
    · rw [h.2.1 1 c (by omega) a.1 a.2]; exact b
    · rw [h.2.1 2 c (by omega) a.1 a.2]; exact c1
    · rw [h.2.1 3 c (by omega) a.1 a.2]; exact ih _ d
theorem chL_rg {M : xM} : ∀ (l : List (Int × Int)) (c : Int), chL M l c → -1 ≤ c ∧ (c = -1 ∨ c < M 34 0) := by
  intro l c h
  cases l with
  | nil => have : c = -1 := h; omega
  | cons x l => have := h.1; omega
/-- the same Cells in a changed memory -/
theorem hpC_cg {e : yE} {M M' : xM} {cs cl : Nat} (hp : hpC e M cs cl) (h30 : M' 30 = M 30) (h34 : M' 34 = M 34) (hC : ∀ j, isC e j → M' j = M j) : hpC e M' cs cl ∧ grL M M' ∧ (∀ j i, (j = 1 ∨ j = 2 ∨ j = 3) → vL M' j i = vL M j i ∧ vS M' j i = vS M j i) := by
  obtain ⟨s1, s2, s3, l1, l2, l3, hS, hL, hd, hm, hs, hl, h99⟩ := hp
  obtain ⟨S1, ⟨r1, r2, r3⟩, ⟨A1, A2, A3⟩, S4, S5, S6⟩ := hS
  obtain ⟨L1, ⟨t1, t2, t3⟩, ⟨B1, B2, B3⟩, L4, L5, L6⟩ := hL
  have iS : ∀ q, yA e q 1 cs → (q < 59 ∨ 99 < q) → isC e q := fun q hq hq2 => ⟨by rw [hq.2.2.1], by rw [hq.2.2.1]; exact hm.1, by rw [hq.2.2.1]; exact Nat.lt_of_lt_of_le (by decide : 0 < 256) S6.1, hq2⟩
  have iL : ∀ q, yA e q 1 cl → (q < 59 ∨ 99 < q) → isC e q := fun q hq hq2 => ⟨by rw [hq.2.2.1], by rw [hq.2.2.1]; exact hm.2, by rw [hq.2.2.1]; exact Nat.lt_of_lt_of_le (by decide : 0 < 256) L6.1, hq2⟩
  have hv : ∀ j i, (j = 1 ∨ j = 2 ∨ j = 3) → vL M' j i = vL M j i ∧ vS M' j i = vS M j i := by
    intro j i hj
    unfold vL vS
    rw [h30, h34]
    rcases hj with rfl | rfl | rfl
    · rw [t1, r1]; exact ⟨by show M' l1 i = M l1 i; rw [hC l1 (iL _ B1 hl.1)], by show M' s1 i = M s1 i; rw [hC s1 (iS _ A1 hs.1)]⟩
    · rw [t2, r2]; exact ⟨by show M' l2 i = M l2 i; rw [hC l2 (iL _ B2 hl.2.1)], by show M' s2 i = M s2 i; rw [hC s2 (iS _ A2 hs.2.1)]⟩
    · rw [t3, r3]; exact ⟨by show M' l3 i = M l3 i; rw [hC l3 (iL _ B3 hl.2.2)], by show M' s3 i = M s3 i; rw [hC s3 (iS _ A3 hs.2.2)]⟩
  refine ⟨⟨s1, s2, s3, l1, l2, l3, ⟨S1, by rw [h30]; exact ⟨r1, r2, r3⟩, ⟨A1, A2, A3⟩, S4, by rw [h30]; exact S5, S6⟩, ⟨L1, by rw [h34]; exact ⟨t1, t2, t3⟩, ⟨B1, B2, B3⟩, L4, by rw [h34]; exact L5, L6⟩, hd, hm, hs, hl, h99⟩, ⟨by rw [h34]; exact Int.le_refl _, fun j i hj _ _ => (hv j i hj).1, by rw [h30]; exact Int.le_refl _, fun j i hj _ _ => (hv j i hj).2⟩, hv⟩
theorem hpC_up {e : yE} {M : xM} {cs cl k : Nat} {i v : Int} (hp : hpC e M cs cl) (hk : ¬ isC e k) (k30 : k ≠ 30) (k34 : k ≠ 34) : hpC e (xup M k i v) cs cl ∧ grL M (xup M k i v) ∧ (∀ j x, (j = 1 ∨ j = 2 ∨ j = 3) → vL (xup M k i v) j x = vL M j x ∧ vS (xup M k i v) j x = vS M j x) :=
  hpC_cg hp (xrd (Ne.symm k30)) (xrd (Ne.symm k34)) (fun j hj => xrd (fun z => hk (by rw [← z]; exact hj)))
/-- an array of lists -/
theorem hpL {e : yE} {M : xM} {cs cl : Nat} (hp : hpC e M cs cl) {j : Int} (hj : j = 1 ∨ j = 2 ∨ j = 3) : ∃ q n : Nat, (M 34 j = (q : Int) ∧ yA e q 1 n) ∧ M 34 0 ≤ n ∧ ∀ i, M q i = vL M j i := by
  obtain ⟨s1, s2, s3, l1, l2, l3, hS, hL, hd, hm, hs, hl, h99⟩ := hp
  obtain ⟨L1, ⟨t1, t2, t3⟩, ⟨B1, B2, B3⟩, L4, L5, L6⟩ := hL
  rcases hj with rfl | rfl | rfl
  · exact ⟨l1, cl, ⟨t1, B1⟩, L5.2, fun i => by unfold vL; rw [t1]; rfl⟩
  · exact ⟨l2, cl, ⟨t2, B2⟩, L5.2, fun i => by unfold vL; rw [t2]; rfl⟩
  · exact ⟨l3, cl, ⟨t3, B3⟩, L5.2, fun i => by unfold vL; rw [t3]; rfl⟩
theorem hpS {e : yE} {M : xM} {cs cl : Nat} (hp : hpC e M cs cl) {j : Int} (hj : j = 1 ∨ j = 2 ∨ j = 3) : ∃ q n : Nat, (M 30 j = (q : Int) ∧ yA e q 1 n) ∧ M 30 0 ≤ n ∧ ∀ i, M q i = vS M j i := by
  obtain ⟨s1, s2, s3, l1, l2, l3, hS, hL, hd, hm, hs, hl, h99⟩ := hp
  obtain ⟨S1, ⟨r1, r2, r3⟩, ⟨A1, A2, A3⟩, S4, S5, S6⟩ := hS
  rcases hj with rfl | rfl | rfl
  · exact ⟨s1, cs, ⟨r1, A1⟩, S5.2, fun i => by unfold vS; rw [r1]; rfl⟩
  · exact ⟨s2, cs, ⟨r2, A2⟩, S5.2, fun i => by unfold vS; rw [r2]; rfl⟩
  · exact ⟨s3, cs, ⟨r3, A3⟩, S5.2, fun i => by unfold vS; rw [r3]; rfl⟩
theorem hp_rg {e : yE} {M : xM} {cs cl : Nat} (hp : hpC e M cs cl) : (0 ≤ M 34 0 ∧ M 34 0 ≤ cl) ∧ (0 ≤ M 30 0 ∧ M 30 0 ≤ cs) ∧ 99 < e.1 := by
  obtain ⟨s1, s2, s3, l1, l2, l3, hS, hL, hd, hm, hs, hl, h99⟩ := hp
  exact ⟨hL.2.2.2.2.1, hS.2.2.2.2.1, h99⟩
/-- where a place stands in a list -/
def fdL (x : Int) : List (Int × Int) → Int
  | [] => -1
  | p :: l => if p.1 = x then p.2 else fdL x l
section CLS
variable {e : yE} {d cs cl : Nat} {M : xM} {x1 x2 x3 : Int}
theorem s_patternAt_13 {Q : Int → xM → Prop} (hs : CSh e) (hp : hpC e M cs cl) (h34 : M 34 0 ≤ 10000000) (hx : rg x2) : ∀ (l : List (Int × Int)) (c i : Int), chL M l c → (∀ p ∈ l, rg p.1) → 0 ≤ i → i + l.length ≤ 120 → Q (fdL x2 l) M → C_Bu_patternAt_13 e d x2 c i M Q := by
  intro l
  induction l with
  | nil =>
    intro c i hc _ i0 i1 h
    have hc : c = -1 := hc
    subst hc
    refine c_Bu_patternAt_13 hs ⟨by rw [List.length_nil] at i1; exact ⟨by omega, by omega⟩, fun _ => h, fun _ => ⟨⟨by omega, by omega⟩, fun _ => h, fun z => absurd rfl z⟩⟩
  | cons p l ih =>
    intro c i hc hr i0 i1 h
    obtain ⟨a, b, c1, d1⟩ := hc
    rw [List.length_cons] at i1
    obtain ⟨q1, n1, hq1, hn1, hv1⟩ := hpL hp (j := 1) (by omega)
    obtain ⟨q2, n2, hq2, hn2, hv2⟩ := hpL hp (j := 2) (by omega)
    obtain ⟨q3, n3, hq3, hn3, hv3⟩ := hpL hp (j := 3) (by omega)
    unfold fdL at h
    refine c_Bu_patternAt_13 hs ⟨⟨by omega, by omega⟩, fun z => absurd z (by omega), fun _ => ⟨⟨by omega, by omega⟩, fun z => absurd z (by omega), fun _ => ⟨q1, n1, hq1, ⟨a.1, by omega⟩, ?_⟩⟩⟩
    rw [hv1, b]
    refine ⟨⟨hr p (by simp), hx⟩, fun z => ⟨q3, n3, hq3, ⟨a.1, by omega⟩, ?_⟩, fun z => ⟨q2, n2, hq2, ⟨a.1, by omega⟩, ?_⟩⟩
    · rw [if_neg z] at h
      rw [hv3]
      exact ih _ (i + 1) d1 (fun x hx => hr x (by simp [hx])) (by omega) (by omega) h
    · rw [if_pos (Classical.not_not.mp z)] at h
      rw [hv2, c1]
      exact h
theorem s_patternAt {Q : Int → xM → Prop} {l : List (Int × Int)} (hs : CSh e) (hp : hpC e M cs cl) (h34 : M 34 0 ≤ 10000000) (hx : rg x2) (h1 : 0 ≤ x1 ∧ x1 < M 30 0) (hc : chL M l (vS M 2 x1)) (hr : ∀ p ∈ l, rg p.1) (hl : l.length ≤ 120) (h : Q (fdL x2 l) M) : C_Bu_patternAt e (d + 1) x1 x2 M Q := by
  obtain ⟨q1, n1, hq1, hn1, hv1⟩ := hpS hp (j := 2) (by omega)
  refine c_Bu_patternAt (c_Bu_patternAt_0 hs ⟨q1, n1, hq1, ⟨h1.1, by omega⟩, ?_⟩)
  rw [hv1]
  exact s_patternAt_13 hs hp h34 hx l _ 0 hc hr (by omega) (by omega) h
end CLS
