/-! ===== the class: putParts ===== -/
/-- what comes of parts: what is left of them, at places from x on -/
def pEr (D : xM) (x : Int) (f : Int → Int) : Nat → Int → List (Int × Int)
  | 0, _ => []
  | k + 1, j => (if lF D (f j) < 0 then [] else [(x + j, lF D (f j))]) ++ pEr D x f k (j + 1)
/-- and the names that they tell -/
def nEr (D : xM) (x : Int) (f : Int → Int) : Nat → Int → List (Int × Int)
  | 0, _ => []
  | k + 1, j => (tlF D (f j)).reverse.map (fun a => (x + j, a)) ++ nEr D x f k (j + 1)
theorem pEr_len {D : xM} {x : Int} {f : Int → Int} : ∀ (k : Nat) (j : Int), (pEr D x f k j).length ≤ k := by
  intro k
  induction k with
  | zero => intro j; exact Nat.le_refl _
  | succ k ih =>
    intro j
    unfold pEr
    rw [List.length_append]
    have := ih (j + 1)
    split <;> simp <;> omega
theorem tl_len {D : xM} (hw : wfP D) : ∀ (n : Nat) (p : Int), isP D p → D 72 p ≤ (n : Int) → ((tlF D p).length : Int) ≤ D 72 p := by
  intro n
  induction n with
  | zero => intro p hp h; have := (hw.2 p hp).2.1; omega
  | succ n ih =>
    intro p hp h
    have h1 := (hw.2 p hp).2.1
    by_cases h3 : D 68 p = 3
    · obtain ⟨-, a, -, -, b⟩ := (hw.2 p hp).2.2.2.2.2.2.2.1 h3
      rw [tlF_3 hw hp h3, List.length_cons]
      have := ih _ a (by omega)
      omega
    · by_cases h0 : D 68 p = 0
      · rw [tlF_0 h0]; split
        · simp; omega
        · simp; omega
      · rw [tlF_o h0 h3]; simp; omega
theorem nC_43 {e : yE} (h : CSh e) : ¬ isC e 43 := nC_a (caa_43 h) (by decide)
section CPT
variable {d cs : Nat} {D : xM} {x1 x2 x3 x5 : Int}
theorem frP_c {e : yE} {M M' : xM} {j : Nat} (hs : CSh e) (hf : frP e M M') (h1 : j < 59) (h2 : j ≠ 29 ∧ j ≠ 30 ∧ j ≠ 34 ∧ j ≠ 44) (h3 : ¬ isC e j) : M' j = M j := hf.1 j (Nat.lt_of_lt_of_le h1 hs.1) h2.1 h2.2.1 h2.2.2.1 h2.2.2.2 h3
theorem s_pp168 {Q : Int → yE → xM → Prop} {A : List (Int × Int)} {l : List (Int × Int)} {r : Int} : ∀ (j : Nat) (e : yE) (cl : Nat) (M : xM) (x6 : Int) (R : List (Int × Int)), CSh e → hpP e M cs cl → j ≤ A.length → A.length ≤ 120 → M 34 0 + j < 500000 → M 30 0 < 8000 → (0 ≤ x1 ∧ x1 < M 30 0) → vS M 1 x1 = r → chL M R x6 → chL M l (M 29 15) →
    (∀ (i : Nat) p, i < j → A[i]? = some p → (0 ≤ M 44 i ∧ M 44 i < M 34 0) ∧ vL M 1 (M 44 i) = p.1 ∧ vL M 2 (M 44 i) = p.2) →
    (∀ e' M' cs' cl', stp e M cs cl e' M' cs' cl' → M' 30 0 = M 30 0 + 1 → M' 34 0 = M 34 0 + j → vS M' 1 (M 30 0) = r → chL M' (A.take j ++ R) (vS M' 2 (M 30 0)) → chL M' l (vS M' 3 (M 30 0)) → Q (M 30 0) e' M') → C_Bu_putParts_168 e (d + 2) x1 x6 ((j : Int) - 1) M Q := by
  intro j
  induction j with
  | zero =>
    intro e cl M x6 R hs hP hj hA hsz hs3 h1 hr hR hl hb h
    obtain ⟨q1, n1, hq1, hn1, hv1⟩ := hpS hP.1 (j := 1) (by omega)
    refine c_Bu_putParts_168 hs ⟨⟨by omega, by omega⟩, fun _ => ⟨q1, n1, hq1, ⟨h1.1, by omega⟩, ?_⟩, fun z => absurd (by omega) z⟩
    rw [hv1, hr]
    refine s_addS' hP hs3 ?_ hs
    intro e' M' cs' g1 g2 g3 g4 g5 ⟨g6, g7, g8⟩
    refine ⟨g1.2.1, h e' M' cs' cl g1 g2 (by rw [g3]; simp) g6 ?_ ?_⟩
    · rw [g7, List.take_zero, List.nil_append]; exact chL_gr g1.2.2.2.2 R _ hR
    · rw [g8]; exact chL_gr g1.2.2.2.2 l _ hl
  | succ j ih =>
    intro e cl M x6 R hs hP hj hA hsz hs3 h1 hr hR hl hb h
    obtain ⟨q1, n1, hq1, hn1, hv1⟩ := hpL hP.1 (j := 1) (by omega)
    obtain ⟨q2, n2, hq2, hn2, hv2⟩ := hpL hP.1 (j := 2) (by omega)
    obtain ⟨p, hp⟩ : ∃ p, A[j]? = some p := ⟨_, List.getElem?_eq_getElem (by omega)⟩
    obtain ⟨b1, b2, b3⟩ := hb j p (by omega) hp
    have hx : ((j + 1 : Nat) : Int) - 1 = j := by omega
    rw [hx]
    refine c_Bu_putParts_168 hs ⟨⟨by omega, by omega⟩, fun z => absurd z (by omega), fun _ => ⟨q1, n1, hq1, by omega, ⟨b1.1, by omega⟩, q2, n2, hq2, by omega, ⟨b1.1, by omega⟩, ?_⟩⟩
    rw [hv1, hv2, b2, b3]
    refine s_addL' hP (by omega) ?_ hs
    intro e' M' cl' g1 g2 g3 g4 g5 ⟨g6, g7, g8⟩
    refine ⟨g1.2.1, ?_⟩
    rw [show (j : Int) + (-1 : Int) = (j : Int) - 1 by omega]
    have h0 := (hp_rg hP.1).1
    have hgr := g1.2.2.2.2
    refine ih e' cl' M' (M 34 0) (p :: R) (hs.le g1.2.1) g1.1 (by omega) hA (by rw [g2]; omega) (by rw [g3]; exact hs3) (by rw [g3]; exact h1) ?_ ?_ ?_ ?_ ?_
    · rw [hgr.2.2.2 1 x1 (by omega) h1.1 h1.2]; exact hr
    · refine ⟨⟨h0.1, by rw [g2]; omega⟩, g6, g7, ?_⟩
      rw [g8]; exact chL_gr hgr R _ hR
    · rw [g4]; exact chL_gr hgr l _ hl
    · intro i p' hi hp'
      obtain ⟨c1, c2, c3⟩ := hb i p' (by omega) hp'
      rw [g5]
      refine ⟨⟨c1.1, by rw [g2]; omega⟩, ?_, ?_⟩
      · rw [hgr.2.1 1 _ (by omega) c1.1 c1.2]; exact c2
      · rw [hgr.2.1 2 _ (by omega) c1.1 c1.2]; exact c3
    · intro e2 M2 cs2 cl2 f1 f2 f3 f4 f5 f6
      rw [g3] at f2 f4 f5 f6 ⊢
      refine h e2 M2 cs2 cl2 (stp_trans g1 f1) f2 (by rw [f3, g2]; omega) f4 ?_ f6
      have : A.take (j + 1) ++ R = A.take j ++ (p :: R) := by
        rw [List.take_add_one, hp]; simp
      rw [this]; exact f5
theorem s_pp111 {Q : Int → yE → xM → Prop} {n : Nat} {B l : List (Int × Int)} {f : Int → Int} (hw : wfP D) (hn : n ≤ 3) (hf : ∀ i : Int, 0 ≤ i → i < n → isP D (f i)) : ∀ (j : Nat) (e : yE) (cl : Nat) (M : xM) (x6 : Int), CSh e → hpP e M cs cl → pCl M D → j ≤ n → M 34 0 + 41 * j < 499900 → (∀ i : Int, 0 ≤ i → i < n → M 43 i = f i) → chL M (pEr D x3 f (n - j) j ++ B) x6 → chL M (nEr D x3 f (n - j) j ++ l) (M 29 15) →
    (∀ e' M' cl' y, stp e M cs cl e' M' cs cl' → M' 30 = M 30 → M' 44 = M 44 → chL M' (pEr D x3 f n 0 ++ B) y → chL M' (nEr D x3 f n 0 ++ l) (M' 29 15) → M' 34 0 + (pEr D x3 f (n - j) j).length + (nEr D x3 f (n - j) j).length = M 34 0 + (pEr D x3 f n 0).length + (nEr D x3 f n 0).length → C_Bu_putParts_168 e' (d + 3) x1 y (x5 - 1) M' Q) → C_Bu_putParts_111 e (d + 3) x1 x3 x5 x6 ((j : Int) - 1) M Q := by
  intro j
  induction j with
  | zero =>
    intro e cl M x6 hs hP hC hj hsz h43 hB hl h
    rw [Nat.sub_zero] at hB hl h
    exact c_Bu_putParts_111 hs ⟨⟨by omega, by omega⟩, fun _ => h e M cl x6 (stp_refl hP) rfl rfl hB hl rfl, fun z => absurd (by omega) z⟩
  | succ j ih =>
    intro e cl M x6 hs hP hC hj hsz h43 hB hl h
    have hx : ((j + 1 : Nat) : Int) - 1 = j := by omega
    rw [hx]
    have hfj := hf j (by omega) (by omega)
    have hnj : n - j = (n - (j + 1)) + 1 := by omega
    have eP : pEr D x3 f (n - j) j = (if lF D (f j) < 0 then [] else [(x3 + j, lF D (f j))]) ++ pEr D x3 f (n - (j + 1)) ((j + 1 : Nat) : Int) := by rw [hnj]; rfl
    have eN : nEr D x3 f (n - j) j = (tlF D (f j)).reverse.map (fun a => (x3 + j, a)) ++ nEr D x3 f (n - (j + 1)) ((j + 1 : Nat) : Int) := by rw [hnj]; rfl
    have htl := tl_len hw 40 _ hfj (hw.2 _ hfj).2.1.2
    have hwt := (hw.2 _ hfj).2.1
    refine c_Bu_putParts_111 hs ⟨⟨by omega, by omega⟩, fun z => absurd z (by omega), fun _ => ⟨by omega, ?_⟩⟩
    rw [h43 j (by omega) (by omega)]
    refine s_stripNames hw hs hP hC hfj (by omega) hl ?_
    intro e1 M1 cl1 g1 g2 g3 g4 g5
    have hs1 := hs.le g1.2.1
    have hC1 := pCl_fr hs hC g1.2.2.2.1
    have h431 : M1 43 = M 43 := frP_c hs g1.2.2.2.1 (by decide) (by decide) (nC_43 hs)
    have hxj : (j : Int) + (-1 : Int) = (j : Int) - 1 := by omega
    have hrg := lF_rg hw (Or.inl hfj)
    have h300 := hw.1
    rw [← List.append_assoc, ← eN] at g4
    refine ⟨g1.2.1, by rcases hrg with z | ⟨z, -⟩; (rw [z]; exact ⟨by omega, by omega⟩); (have := z.1; have := z.2; exact ⟨by omega, by omega⟩), fun z => ?_, fun z => ?_⟩
    · rw [hxj]
      have eP2 : pEr D x3 f (n - j) j = pEr D x3 f (n - (j + 1)) ((j + 1 : Nat) : Int) := by rw [eP, if_pos (by omega)]; rfl
      refine ih e1 cl1 M1 x6 hs1 g1.1 hC1 (by omega) (by rw [g5]; omega) (fun i h0 h1 => by rw [h431]; exact h43 i h0 h1) ?_ g4 ?_
      · rw [eP2]; exact chL_gr g1.2.2.2.2 _ _ hB
      · intro e2 M2 cl2 y f1 f2 f3 f4 f5 f6
        refine h e2 M2 cl2 y (stp_trans g1 f1) (f2.trans g2) (f3.trans g3) f4 f5 ?_
        rw [eN, eP2, List.length_append, List.length_map, List.length_reverse, g5] at f6
        omega
    · have hl0 : ¬ lF D (f j) < 0 := by rcases hrg with y | ⟨y, -⟩; (exact absurd y z); (have := y.1; omega)
      have eP2 : pEr D x3 f (n - j) j = (x3 + j, lF D (f j)) :: pEr D x3 f (n - (j + 1)) ((j + 1 : Nat) : Int) := by rw [eP, if_neg hl0]; rfl
      refine s_addL' g1.1 (by rw [g5]; omega) ?_ hs1
      intro e2 M2 cl2 k1 k2 k3 k4 k5 ⟨k6, k7, k8⟩
      have hs2 := hs1.le k1.2.1
      have hC2 := pCl_fr hs1 hC1 k1.2.2.2.1
      have h432 : M2 43 = M1 43 := frP_c hs1 k1.2.2.2.1 (by decide) (by decide) (nC_43 hs1)
      have h0 := (hp_rg g1.1.1).1
      refine ⟨k1.2.1, ?_⟩
      rw [hxj]
      refine ih e2 cl2 M2 (M1 34 0) hs2 k1.1 hC2 (by omega) (by rw [k2, g5]; omega) (fun i h0 h1 => by rw [h432, h431]; exact h43 i h0 h1) ?_ ?_ ?_
      · rw [eP2]
        refine ⟨⟨h0.1, by rw [k2]; omega⟩, k6, k7, ?_⟩
        rw [k8]
        exact chL_gr (grL_trans g1.2.2.2.2 k1.2.2.2.2) _ _ hB
      · rw [k4]; exact chL_gr k1.2.2.2.2 _ _ g4
      · intro e3 M3 cl3 y f1 f2 f3 f4 f5 f6
        refine h e3 M3 cl3 y (stp_trans g1 (stp_trans k1 f1)) (f2.trans (k3.trans g2)) (f3.trans (k5.trans g3)) f4 f5 ?_
        rw [eN, eP2, List.length_append, List.length_map, List.length_reverse, List.length_cons, k2, g5] at f6
        omega
end CPT
