/-! ===== the class: labels of a column; rows behind a test ===== -/
section CR2
variable {D E : xM} {d : Nat} {π col : Int → Int} {w np b at_ : Int}
theorem cR_K {e : yE} {cs cl : Nat} {M M' : xM} {rows : List aR} (hs : CSh e) (hp : hpP e M cs cl) (hf : frK M M') (h : cR D M π w col rows) : cR D M' π w col rows := by
  refine ⟨by rw [hf.2 9 (by decide)]; exact h.1, fun i r hr => ?_⟩
  rw [hf.1 41 (by decide) (by decide)]
  exact crw_gr (hp_K hs hp hf).2 (h.2 i r hr)
theorem s_gatherLabels {e : yE} {cs cl : Nat} {M : xM} {Q : xM → Prop} {rows : List aR} (hw : wfP D) (hs : CSh e) (hP : hpP e M cs cl) (hC : pCl M D) (h34 : M 34 0 ≤ 10000000) (hpi : piO π np b) (hb : b ≤ 1000) (hc : okCo D w col np E) (hat : 0 ≤ at_ ∧ at_ < w) (ho : ∀ q ∈ rows, okC D w q) (hR : cR D M π w col rows) (hl : rows.length ≤ 24) (h : ∀ M', frK M M' → lbl M' (kys D at_ rows []) → Q M') : C_Bu_gatherLabels e (d + 2) (π (col at_)) M Q := by
  refine c_Bu_gatherLabels (c_Bu_gatherLabels_0 hs (fun M1 e1 => ?_))
  have f1 : frK M M1 := by rw [e1]; exact frK_up (Or.inl ⟨rfl, rfl⟩)
  have key : ∀ (todo dn : List aR) (M2 : xM) (ks : List Int), rows = dn ++ todo → frK M M2 → lbl M2 ks → ks.length ≤ dn.length → (∀ k ∈ ks, rg k) → (∀ M', frK M M' → lbl M' (kys D at_ todo ks) → Q M') → C_Bu_gatherLabels_7 e (d + 1) (π (col at_)) dn.length M2 Q := by
    intro todo
    induction todo with
    | nil =>
      intro dn M2 ks hk f2 l2 hkl hkr hq
      have hR2 := cR_K hs hP f2 hR
      have h9 := hR2.1
      rw [List.append_nil] at hk
      have hlen : rows.length = dn.length := by rw [hk]
      exact c_Bu_gatherLabels_7 hs ⟨⟨⟨by omega, by omega⟩, ⟨by omega, by omega⟩⟩, fun _ => hq M2 f2 l2, fun z => absurd (by omega) z⟩
    | cons r rs ih =>
      intro dn M2 ks hk f2 l2 hkl hkr hq
      have hR2 := cR_K hs hP f2 hR
      have h9 := hR2.1
      have hgr : rows[dn.length]? = some r := by rw [hk, List.getElem?_append_right (Nat.le_refl _), Nat.sub_self]; rfl
      have hlen : rows.length = dn.length + rs.length + 1 := by rw [hk, List.length_append, List.length_cons]; omega
      have hor := ho r (List.mem_of_getElem? hgr)
      have hv := okC_rg hw hor hat.1 hat.2
      have e2 : (((dn ++ [r]).length : Nat) : Int) = (dn.length : Int) + 1 := by rw [List.length_append, List.length_singleton]; omega
      have hk2 : rows = (dn ++ [r]) ++ rs := by rw [hk]; simp
      unfold kys at hq
      refine c_Bu_gatherLabels_7 hs ⟨⟨⟨by omega, by omega⟩, ⟨by omega, by omega⟩⟩, fun z => absurd z (by omega), fun _ => ⟨by omega, s_patAt hw hs (hp_K hs hP f2).1 (by rw [f2.1 34 (by decide) (by decide)]; exact h34) hpi hb hc hat hor (hR2.2 _ r hgr) ?_⟩⟩
      refine ⟨⟨by omega, by omega⟩, fun z => ?_, fun z => ⟨by omega, ?_⟩⟩
      · rw [if_neg (by omega)] at hq
        have := ih (dn ++ [r]) M2 ks hk2 f2 l2 (by rw [List.length_append]; omega) hkr hq
        rw [e2] at this; exact this
      · rw [if_pos (by omega)] at hq
        have hp : isP D (r.2.1 at_) := by
          rcases hor at_ hat.1 hat.2 with y | y
          · exact absurd y z
          · exact y
        have h21 : M2 21 (r.2.1 at_) = D 70 (r.2.1 at_) := by rw [f2.1 21 (by decide) (by decide)]; exact (hC _ hp).1
        rw [h21]
        have hrh := (hw.2 _ hp).2.2.1
        refine s_gatherLabel hs l2 (by omega) hrh hkr (fun M3 f3 l3 => ?_)
        have hil : (ins (D 70 (r.2.1 at_)) ks).length ≤ ks.length + 1 := by
          by_cases y : D 70 (r.2.1 at_) ∈ ks
          · have : ∀ (x : Int) (l : List Int), (ins x l).length ≤ l.length + 1 := by
              intro x l
              induction l with
              | nil => simp [ins]
              | cons z l ih => unfold ins; split; (simp; omega); (split <;> simp)
            exact this _ _
          · rw [ins_len _ y]; omega
        have := ih (dn ++ [r]) M3 _ hk2 (frK_trans f2 f3) l3 (by rw [List.length_append, List.length_singleton]; omega) (fun k hk => by rcases (ins_mem ks).mp hk with y | y; (rw [y]; exact hrh); exact hkr k y) hq
        rw [e2] at this; exact this
  exact key rows [] M1 [] rfl f1 ⟨by rw [e1, xrs]; rfl, fun i k hk => by simp at hk⟩ (by simp) (by simp) h
/-- a node's places behind a test -/
def piN (π : Int → Int) (np fp : Int) : Int → Int := fun q => if q < np then π q else fp + (q - np)
theorem piN_O {fp m : Int} (h : piO π np b) (hfp : b ≤ fp) (hb0 : 0 ≤ b) (hm : 0 ≤ m) : piO (piN π np fp) (np + m) (fp + m) := by
  refine ⟨fun q q0 q1 => ?_, fun i j i0 i1 j0 j1 hij => ?_⟩
  · unfold piN
    by_cases z : q < np
    · rw [if_pos z]; have := h.1 q q0 z; omega
    · rw [if_neg z]; omega
  · unfold piN at hij
    by_cases z1 : i < np
    · rw [if_pos z1] at hij
      have := h.1 i i0 z1
      by_cases z2 : j < np
      · rw [if_pos z2] at hij; exact h.2 i j i0 z1 j0 z2 hij
      · rw [if_neg z2] at hij; omega
    · rw [if_neg z1] at hij
      by_cases z2 : j < np
      · rw [if_pos z2] at hij; have := h.1 j j0 z2; omega
      · rw [if_neg z2] at hij; omega
theorem opn_pEr {π col cell f : Int → Int} {x : Int} : ∀ (n : Nat) (k j : Int), (∀ i : Nat, i < n → cell (k + i) = lF D (f (j + i)) ∧ π (col (k + i)) = x + (j + i)) → opn π col cell n k = pEr D x f n j := by
  intro n
  induction n with
  | zero => intro k j _; rfl
  | succ n ih =>
    intro k j h
    unfold opn pEr
    have h0 := h 0 (by omega)
    rw [show k + ((0 : Nat) : Int) = k by omega, show j + ((0 : Nat) : Int) = j by omega] at h0
    rw [ih (k + 1) (j + 1) (fun i hi => by have := h (i + 1) (by omega); rw [show k + ((i + 1 : Nat) : Int) = k + 1 + i by omega, show j + ((i + 1 : Nat) : Int) = j + 1 + i by omega] at this; exact this), h0.1, h0.2]
theorem nmK_cg {π nam nam' : Int → Int} {l : List (Int × Int)} (h : nmK π nam l) (he : ∀ a, 0 ≤ a → a < 16 → nam' a = nam a) : nmK π nam' l := by
  obtain ⟨h1, h2, h3⟩ := h
  refine ⟨fun x hx => ?_, fun a a0 a1 ha => ?_, h3⟩
  · obtain ⟨u1, u2, u3⟩ := h1 x hx
    rw [he _ u1.1 u1.2]; exact ⟨u1, u2, u3⟩
  · rw [he a a0 a1] at ha ⊢; exact h2 a a0 a1 ha
theorem nmK_pi {π π' nam : Int → Int} {l : List (Int × Int)} (h : nmK π nam l) (he : ∀ a, 0 ≤ a → a < 16 → 0 ≤ nam a → π' (nam a) = π (nam a)) : nmK π' nam l := by
  obtain ⟨h1, h2, h3⟩ := h
  refine ⟨fun x hx => ?_, fun a a0 a1 ha => ?_, h3⟩
  · obtain ⟨u1, u2, u3⟩ := h1 x hx
    exact ⟨u1, u2, by rw [he _ u1.1 u1.2 u2]; exact u3⟩
  · rw [he a a0 a1 ha]; exact h2 a a0 a1 ha
/-- names told by parts from j on -/
noncomputable def nmP (D : xM) (np : Int) (f nam : Int → Int) : Nat → Int → Int → Int
  | 0, _, x => nam x
  | k + 1, j, x => if tF D (f j) x = true then np + j else nmP D np f nam k (j + 1) x
theorem nmP_no {f nam : Int → Int} {x : Int} : ∀ (k : Nat) (j : Int), (∀ i, j ≤ i → i < j + k → ¬ tF D (f i) x = true) → nmP D np f nam k j x = nam x := by
  intro k
  induction k with
  | zero => intro j _; rfl
  | succ k ih => intro j h; unfold nmP; rw [if_neg (h j (by omega) (by omega))]; exact ih (j + 1) (fun i i0 i1 => h i (by omega) (by omega))
theorem nmP_at {f nam : Int → Int} {x i : Int} : ∀ (k : Nat) (j : Int), j ≤ i → i < j + k → tF D (f i) x = true → (∀ i', j ≤ i' → i' < j + k → i' ≠ i → ¬ tF D (f i') x = true) → nmP D np f nam k j x = np + i := by
  intro k
  induction k with
  | zero => intro j h1 h2; omega
  | succ k ih =>
    intro j h1 h2 h3 h4
    unfold nmP
    by_cases z : j = i
    · subst z; rw [if_pos h3]
    · rw [if_neg (h4 j (by omega) (by omega) z)]
      exact ih (j + 1) (by omega) (by omega) h3 (fun i' a b c => h4 i' (by omega) (by omega) c)
theorem nmK_parts (hw : wfP D) (hwb : wfB D) {π f nam : Int → Int} {l : List (Int × Int)} {x n : Int} (hn0 : 0 ≤ np) (hl : nmK π nam l) (hf : ∀ i, 0 ≤ i → i < n → isP D (f i)) (hpi : ∀ i, 0 ≤ i → i < n → π (np + i) = x + i) (hno : ∀ i a, 0 ≤ i → i < n → 0 ≤ a → a < 16 → tF D (f i) a = true → nam a < 0 ∧ ∀ i', 0 ≤ i' → i' < n → i' ≠ i → ¬ tF D (f i') a = true) : ∀ (k : Nat) (j : Int), 0 ≤ j → j + k ≤ n → nmK π (nmP D np f nam k j) (nEr D x f k j ++ l) := by
  intro k
  induction k with
  | zero => intro j _ _; exact hl
  | succ k ih =>
    intro j j0 j1
    have := nmK_strip (q := np + j) hw hwb (hf j j0 (by omega)) (by omega) (ih (j + 1) (by omega) (by omega)) (fun a a0 a1 ht => by
      obtain ⟨u, v⟩ := hno j a j0 (by omega) a0 a1 ht
      rw [nmP_no k (j + 1) (fun i i0 i1 => v i (by omega) (by omega) (by omega))]
      exact u)
    rw [hpi j j0 (by omega)] at this
    unfold nEr
    rw [List.append_assoc]
    exact this
/-- parts weigh no more than they did -/
def swt (D : xM) (f : Int → Int) : Nat → Int → Int
  | 0, _ => 0
  | k + 1, j => (2 * D 72 (f j) + 1) + swt D f k (j + 1)
theorem pe_wt (hw : wfP D) {f : Int → Int} {x n : Int} (hf : ∀ i, 0 ≤ i → i < n → isP D (f i)) : ∀ (k : Nat) (j : Int), 0 ≤ j → j + k ≤ n → pL D (pEr D x f k j) + 2 * ((nEr D x f k j).length : Int) ≤ swt D f k j := by
  intro k
  induction k with
  | zero => intro j _ _; exact Int.le_refl _
  | succ k ih =>
    intro j j0 j1
    have h1 := ih (j + 1) (by omega) (by omega)
    have hp := hf j j0 (by omega)
    have h2 := lF_wt hw 40 _ hp (hw.2 _ hp).2.1.2
    unfold pEr nEr swt
    rw [pL_app, List.length_append, List.length_map, List.length_reverse]
    by_cases z : lF D (f j) < 0
    · rw [if_pos z] at h2 ⊢
      show 0 + _ + _ ≤ _
      omega
    · rw [if_neg z] at h2 ⊢
      show ((2 * D 72 (lF D (f j)) + 1) + 0) + _ + _ ≤ _
      omega
theorem swt_2 (hw : wfP D) (ht : wfT D) {p : Int} (hp : isP D p) (h2 : D 68 p = 2) : swt D (prt D p) (pct D p).toNat 0 ≤ 2 * D 72 p + 1 := by
  have hpc := pct_rg hw ht hp h2
  have hd := ((hw.2 p hp).2.2.2.2.2.2.1 h2).2.2.2
  rw [hd]
  have : pct D p = 0 ∨ pct D p = 1 ∨ pct D p = 2 ∨ pct D p = 3 := by omega
  unfold sm3
  rcases this with z | z | z | z
  · rw [z]; simp only [swt, show (0 : Int).toNat = 0 from rfl]; simp
  · rw [z]; show (2 * D 72 (prt D p 0) + 1) + 0 ≤ _; rw [if_pos (by omega), if_neg (by omega), if_neg (by omega)]; omega
  · rw [z]; show (2 * D 72 (prt D p 0) + 1) + ((2 * D 72 (prt D p 1) + 1) + 0) ≤ _; rw [if_pos (by omega), if_pos (by omega), if_neg (by omega)]; omega
  · rw [z]; show (2 * D 72 (prt D p 0) + 1) + ((2 * D 72 (prt D p 1) + 1) + ((2 * D 72 (prt D p 2) + 1) + 0)) ≤ _; rw [if_pos (by omega), if_pos (by omega), if_pos (by omega)]; omega
end CR2
