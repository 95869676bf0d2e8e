/-! ===== a tree takes the row that patterns tell ===== -/
section SEM3
variable {D E : xM} {m w np at_ mm key : Int} {col va va' : Int → Int} {oth : Bool}
theorem bNm_no {p a : Int} {nam : Int → Int} : ∀ n : Nat, (∀ j, 0 ≤ j → j < (n : Int) → ¬ tF D (bPt D p j) a = true) → bNm D p np nam n a = nam a := by
  intro n
  induction n with
  | zero => intro _; rfl
  | succ n ih =>
    intro h
    unfold bNm
    rw [if_neg (h n (by omega) (by omega))]
    exact ih (fun j j0 j1 => h j j0 (by omega))
theorem bNm_at {p a j : Int} {nam : Int → Int} : ∀ n : Nat, 0 ≤ j → j < (n : Int) → tF D (bPt D p j) a = true → (∀ i, 0 ≤ i → i < (n : Int) → i ≠ j → ¬ tF D (bPt D p i) a = true) → bNm D p np nam n a = np + j := by
  intro n
  induction n with
  | zero => intro h1 h2; omega
  | succ n ih =>
    intro h1 h2 h3 h4
    unfold bNm
    by_cases z : (n : Int) = j
    · rw [z, if_pos h3]
    · rw [if_neg (h4 n (by omega) (by omega) z)]
      exact ih h1 (by omega) h3 (fun i i0 i1 i2 => h4 i i0 (by omega) i2)
/-- a row that goes on behind a test: what its parts are -/
theorem bIn_pt (hw : wfP D) {r : aR} (hat : 0 ≤ at_ ∧ at_ < w) (ho : okT D w col E r) (hne : ¬ (0 ≤ r.2.1 at_ ∧ D 68 (r.2.1 at_) = 4)) (hin : r.2.1 at_ < 0 ∨ (oth = false ∧ D 70 (r.2.1 at_) = key)) (hm : mm = bMn D (E 88 (col at_)) key oth) : (r.2.1 at_ < 0 ∧ ∀ j, bPt D (r.2.1 at_) j = -1) ∨ (isP D (r.2.1 at_) ∧ 0 ≤ r.2.1 at_ ∧ D 68 (r.2.1 at_) = 1 ∧ mm = 0) ∨ (isP D (r.2.1 at_) ∧ 0 ≤ r.2.1 at_ ∧ D 68 (r.2.1 at_) = 2 ∧ mm = pct D (r.2.1 at_) ∧ ∀ j, bPt D (r.2.1 at_) j = prt D (r.2.1 at_) j) := by
  rcases okT_at hw ho hat hne with z | ⟨hp, hty, hk⟩
  · left
    exact ⟨by omega, fun j => by unfold bPt; rw [if_pos (by omega)]⟩
  · have h0 := hp.1
    have hin2 : oth = false ∧ D 70 (r.2.1 at_) = key := by
      rcases hin with y | y
      · omega
      · exact y
    rcases hk with hk | hk
    · right; left
      refine ⟨hp, h0, hk, ?_⟩
      have := (hw.2 _ hp).2.2.2.2.2.1 hk
      rw [hm]; unfold bMn; rw [if_pos (Or.inr (by omega))]
    · right; right
      have hpos := ((hw.2 _ hp).2.2.2.2.2.2.1 hk).2.1
      refine ⟨hp, h0, hk, ?_, fun j => by unfold bPt; rw [if_neg (by omega)]⟩
      rw [hm]; unfold bMn pct
      rw [if_neg (by rintro (y | y); rw [hin2.1] at y; cases y; omega), hty, hin2.2]
/-- where a column's name came from -/
theorem bCl_src (hw : wfP D) (hb : wfB D) {r : aR} {a k : Int} (hmr : 0 ≤ mm) (hat : 0 ≤ at_ ∧ at_ < w) (ho : okT D w col E r) (hne : ¬ (0 ≤ r.2.1 at_ ∧ D 68 (r.2.1 at_) = 4)) (hin : r.2.1 at_ < 0 ∨ (oth = false ∧ D 70 (r.2.1 at_) = key)) (hm : mm = bMn D (E 88 (col at_)) key oth) (a0 : 0 ≤ a) (a1 : a < 16) (k0 : 0 ≤ k) (k1 : k < w - 1 + mm) (hk : 0 ≤ bCl D at_ mm r.2.1 k) (hn : nmb D (bCl D at_ mm r.2.1 k) a) :
    (∃ i, (0 ≤ i ∧ i < w) ∧ i ≠ at_ ∧ 0 ≤ r.2.1 i ∧ nmb D (r.2.1 i) a ∧ ((k < at_ ∧ i = k) ∨ (at_ + mm ≤ k ∧ i = k - mm + 1)) ∧ bCl D at_ mm r.2.1 k = r.2.1 i) ∨ (at_ ≤ k ∧ k < at_ + mm ∧ isP D (r.2.1 at_) ∧ 0 ≤ r.2.1 at_ ∧ D 68 (r.2.1 at_) = 2 ∧ mm = pct D (r.2.1 at_) ∧ nmb D (r.2.1 at_) a ∧ nmb D (prt D (r.2.1 at_) (k - at_)) a ∧ ¬ tF D (prt D (r.2.1 at_) (k - at_)) a = true) := by
  unfold bCl at hk hn ⊢
  by_cases c1 : k < at_
  · rw [if_pos c1] at hk hn ⊢
    exact Or.inl ⟨k, by omega, by omega, hk, hn, Or.inl ⟨c1, rfl⟩, rfl⟩
  · rw [if_neg c1] at hk hn ⊢
    by_cases c2 : k < at_ + mm
    · rw [if_pos c2] at hk hn ⊢
      right
      rcases bIn_pt hw hat ho hne hin hm with ⟨-, z⟩ | ⟨-, -, -, z⟩ | ⟨hp, h0, h2, hmm, hpt⟩
      · rw [z, lF_neg (by omega)] at hk; omega
      · omega
      · rw [hpt] at hk hn
        have hpj := (((hw.2 _ hp).2.2.2.2.2.2.1 h2).2.2.1 (k - at_) (by omega) (by omega)).1
        have hl := lF_nm1 hw hb hpj a0 a1
        have hnj := hl.1.mpr (Or.inr ⟨hk, hn⟩)
        refine ⟨by omega, c2, hp, h0, h2, hmm, ((hb _ hp a a0 a1).2.2.1 h2).1.mpr ⟨k - at_, by omega, by omega, hnj⟩, hnj, fun y => hl.2 ⟨y, hk, hn⟩⟩
    · rw [if_neg c2] at hk hn ⊢
      exact Or.inl ⟨k - mm + 1, by omega, by omega, hk, hn, Or.inr ⟨by omega, rfl⟩, rfl⟩
/-- parts that tell a name -/
theorem bPt_tl (hw : wfP D) (hb : wfB D) {r : aR} {a j : Int} (hat : 0 ≤ at_ ∧ at_ < w) (ho : okT D w col E r) (hne : ¬ (0 ≤ r.2.1 at_ ∧ D 68 (r.2.1 at_) = 4)) (hin : r.2.1 at_ < 0 ∨ (oth = false ∧ D 70 (r.2.1 at_) = key)) (hm : mm = bMn D (E 88 (col at_)) key oth) (a0 : 0 ≤ a) (a1 : a < 16) (j0 : 0 ≤ j) (j1 : j < mm) (htl : tF D (bPt D (r.2.1 at_) j) a = true) : isP D (r.2.1 at_) ∧ 0 ≤ r.2.1 at_ ∧ D 68 (r.2.1 at_) = 2 ∧ mm = pct D (r.2.1 at_) ∧ nmb D (r.2.1 at_) a ∧ nmb D (prt D (r.2.1 at_) j) a ∧ tF D (prt D (r.2.1 at_) j) a = true := by
  rcases bIn_pt hw hat ho hne hin hm with ⟨-, z⟩ | ⟨-, -, -, z⟩ | ⟨hp, h0, h2, hmm, hpt⟩
  · rw [z, tF_neg (by omega)] at htl; cases htl
  · omega
  · rw [hpt] at htl
    have hpj := (((hw.2 _ hp).2.2.2.2.2.2.1 h2).2.2.1 j j0 (by omega)).1
    have hnj := (lF_nm1 hw hb hpj a0 a1).1.mpr (Or.inl htl)
    exact ⟨hp, h0, h2, hmm, ((hb _ hp a a0 a1).2.2.1 h2).1.mpr ⟨j, j0, by omega, hnj⟩, hnj, htl⟩
theorem nmU_bRw (hw : wfP D) (hb : wfB D) {r : aR} (hmr : 0 ≤ mm ∧ mm ≤ 3) (hat : 0 ≤ at_ ∧ at_ < w) (ho : okT D w col E r) (hne : ¬ (0 ≤ r.2.1 at_ ∧ D 68 (r.2.1 at_) = 4)) (hin : r.2.1 at_ < 0 ∨ (oth = false ∧ D 70 (r.2.1 at_) = key)) (hm : mm = bMn D (E 88 (col at_)) key oth) (hU : nmU D w r) : nmU D (w - 1 + mm) (bRw D np at_ mm r) := by
  intro a a0 a1
  obtain ⟨u1, u2⟩ := hU a a0 a1
  refine ⟨fun k k0 k1 hk hn => ?_, fun j k j0 j1 k0 k1 hjk hj hk hh => ?_⟩
  · show bNm D (r.2.1 at_) np r.2.2 mm.toNat a < 0
    have hk : 0 ≤ bCl D at_ mm r.2.1 k := hk
    have hn : nmb D (bCl D at_ mm r.2.1 k) a := hn
    have hsrc := bCl_src hw hb hmr.1 hat ho hne hin hm a0 a1 k0 k1 hk hn
    have hno : ∀ j, 0 ≤ j → j < (mm.toNat : Int) → ¬ tF D (bPt D (r.2.1 at_) j) a = true := by
      intro j j0 j1 htl
      obtain ⟨p1, p2, p3, p4, p5, p6, p7⟩ := bPt_tl hw hb hat ho hne hin hm a0 a1 j0 (by omega) htl
      rcases hsrc with ⟨i, hi, hi2, hi3, hi4, -, -⟩ | ⟨q1, q2, -, -, -, -, -, q3, q4⟩
      · exact u2 i at_ hi.1 hi.2 hat.1 hat.2 hi2 hi3 p2 ⟨hi4, p5⟩
      · by_cases z : j = k - at_
        · subst z; exact q4 p7
        · have hu := ((hb _ p1 a a0 a1).2.2.1 p3).2
          by_cases z2 : j < k - at_
          · exact hu j (k - at_) j0 z2 (by omega) ⟨p6, q3⟩
          · exact hu (k - at_) j (by omega) (by omega) (by omega) ⟨q3, p6⟩
    rw [bNm_no _ hno]
    rcases hsrc with ⟨i, hi, hi2, hi3, hi4, -, -⟩ | ⟨q1, q2, q3, q4, -, -, q5, -, -⟩
    · exact u1 i hi.1 hi.2 hi3 hi4
    · exact u1 at_ hat.1 hat.2 q4 q5
  · have hj : 0 ≤ bCl D at_ mm r.2.1 j := hj
    have hk : 0 ≤ bCl D at_ mm r.2.1 k := hk
    have h1 := bCl_src hw hb hmr.1 hat ho hne hin hm a0 a1 j0 j1 hj hh.1
    have h2 := bCl_src hw hb hmr.1 hat ho hne hin hm a0 a1 k0 k1 hk hh.2
    rcases h1 with ⟨i, hi, hi2, hi3, hi4, hi5, -⟩ | ⟨q1, q2, q3, q4, q5, q6, q7, q8, -⟩
    · rcases h2 with ⟨i', hi', hi2', hi3', hi4', hi5', -⟩ | ⟨q1', q2', q3', q4', q5', q6', q7', q8', -⟩
      · have : i ≠ i' := by omega
        exact u2 i i' hi.1 hi.2 hi'.1 hi'.2 this hi3 hi3' ⟨hi4, hi4'⟩
      · exact u2 i at_ hi.1 hi.2 hat.1 hat.2 hi2 hi3 q4' ⟨hi4, q7'⟩
    · rcases h2 with ⟨i', hi', hi2', hi3', hi4', hi5', -⟩ | ⟨q1', q2', q3', q4', q5', q6', q7', q8', -⟩
      · exact u2 i' at_ hi'.1 hi'.2 hat.1 hat.2 hi2' hi3' q4 ⟨hi4', q7⟩
      · have hu := ((hb _ q3 a a0 a1).2.2.1 q5).2
        by_cases z2 : j < k
        · exact hu (j - at_) (k - at_) (by omega) (by omega) (by omega) ⟨q8, q8'⟩
        · exact hu (k - at_) (j - at_) (by omega) (by omega) (by omega) ⟨q8', q8⟩
theorem lF_noE (hw : wfP D) (he : wfE D) : ∀ (n : Nat) (p : Int), isP D p → D 72 p ≤ (n : Int) → noE D p → 0 ≤ lF D p → noE D (lF D p) := by
  intro n
  induction n with
  | zero => intro p hp h; have := (hw.2 p hp).2.1; omega
  | succ n ih =>
    intro p hp h hne h0
    by_cases h3 : D 68 p = 3
    · obtain ⟨-, a3, -, t, b⟩ := (hw.2 p hp).2.2.2.2.2.2.2.1 h3
      rw [lF_3 hw hp h3] at h0 ⊢
      exact ih _ a3 (by omega) ((he p hp hne).2.2 h3) h0
    · by_cases z : D 68 p = 0
      · rw [lF_0 hp z] at h0; omega
      · rw [lF_o hp z h3]; exact hne
theorem rI_bRw (hw : wfP D) (ht : wfT D) (hb : wfB D) (he : wfE D) (hc : okCo D w col np E) {r : aR} (hmr : 0 ≤ mm ∧ mm ≤ 3) (hat : 0 ≤ at_ ∧ at_ < w) (ho : okT D w col E r) (hne : ¬ (0 ≤ r.2.1 at_ ∧ D 68 (r.2.1 at_) = 4)) (hin : r.2.1 at_ < 0 ∨ (oth = false ∧ D 70 (r.2.1 at_) = key)) (hm : mm = bMn D (E 88 (col at_)) key oth) (hI : rI D m w r) : rI D m (w - 1 + mm) (bRw D np at_ mm r) := by
  refine ⟨fun g0 a ha => ?_, nmU_bRw hw hb hmr hat ho hne hin hm hI.2.1, fun g0 k k0 k1 hk => ?_⟩
  · obtain ⟨u1, u2⟩ := hI.1 g0 a ha
    exact ⟨u1, hsN_bRw hw ht hb hc hat ho hne hin hm hmr u1.1 u1.2 u2⟩
  · have hg := hI.2.2 g0
    have hk : 0 ≤ bCl D at_ mm r.2.1 k := hk
    show noE D (bCl D at_ mm r.2.1 k)
    unfold bCl at hk ⊢
    by_cases c1 : k < at_
    · rw [if_pos c1] at hk ⊢; exact hg k k0 (by omega) hk
    · rw [if_neg c1] at hk ⊢
      by_cases c2 : k < at_ + mm
      · rw [if_pos c2] at hk ⊢
        rcases bIn_pt hw hat ho hne hin hm with ⟨-, z⟩ | ⟨-, -, -, z⟩ | ⟨hp, h0, h2, hmm, hpt⟩
        · rw [z, lF_neg (by omega)] at hk; omega
        · omega
        · rw [hpt] at hk ⊢
          have hpj := (((hw.2 _ hp).2.2.2.2.2.2.1 h2).2.2.1 (k - at_) (by omega) (by omega)).1
          exact lF_noE hw he 40 _ hpj (hw.2 _ hpj).2.1.2 ((he _ hp (hg at_ hat.1 hat.2 h0)).2.1 h2 _ (by omega) (by omega)) hk
      · rw [if_neg c2] at hk ⊢; exact hg (k - mm + 1) (by omega) (by omega) hk
/-- a row that goes on matches as before, and its names stand for the same -/
theorem bRw_same (hw : wfP D) (ht : wfT D) (hb : wfB D) (hc : okCo D w col np E) {r : aR} (hmr : 0 ≤ mm ∧ mm ≤ 3) (hat : 0 ≤ at_ ∧ at_ < w) (ho : okR D w col np E r) (hne : ¬ (0 ≤ r.2.1 at_ ∧ D 68 (r.2.1 at_) = 4)) (hin : r.2.1 at_ < 0 ∨ (oth = false ∧ D 70 (r.2.1 at_) = key)) (hm : mm = bMn D (E 88 (col at_)) key oth) (hU : nmU D w r) (hv1 : ∀ x, 0 ≤ x → x < np → va' x = va x) (hv2 : ∀ j, 0 ≤ j → j < mm → va' (np + j) = D 66 (3 * va (col at_) + j)) (hhit : 0 ≤ r.2.1 at_ → D 65 (va (col at_)) = D 70 (r.2.1 at_)) :
    (rmb D (bCol col np at_ mm) va' (bRw D np at_ mm r) (w - 1 + mm).toNat 0 = true ↔ rmb D col va r w.toNat 0 = true) ∧ ∀ a, 0 ≤ a → a < 16 → rnv D (w - 1 + mm) (bCol col np at_ mm) va' (bRw D np at_ mm r) a = rnv D w col va r a := by
  obtain ⟨ho, -, hnr⟩ := ho
  have hcase := bIn_pt hw hat ho hne hin hm
  have hcol : ∀ i, 0 ≤ i → i < w → va' (col i) = va (col i) := fun i i0 i1 => hv1 _ (hc.2.2.1 i i0 i1).1.1 (hc.2.2.1 i i0 i1).1.2
  -- columns that stay
  have lo : ∀ k, k < at_ → bCl D at_ mm r.2.1 k = r.2.1 k ∧ bCol col np at_ mm k = col k := by
    intro k hk; unfold bCl bCol; rw [if_pos hk, if_pos hk]; exact ⟨rfl, rfl⟩
  have hi : ∀ k, at_ < k → bCl D at_ mm r.2.1 (k + mm - 1) = r.2.1 k ∧ bCol col np at_ mm (k + mm - 1) = col k := by
    intro k hk; unfold bCl bCol; rw [if_neg (by omega), if_neg (by omega), if_neg (by omega), if_neg (by omega), show k + mm - 1 - mm + 1 = k by omega]; exact ⟨rfl, rfl⟩
  have md : ∀ j, 0 ≤ j → j < mm → bCl D at_ mm r.2.1 (at_ + j) = lF D (bPt D (r.2.1 at_) j) ∧ bCol col np at_ mm (at_ + j) = np + j := by
    intro j j0 j1; unfold bCl bCol; rw [if_neg (by omega), if_pos (by omega), if_neg (by omega), if_pos (by omega), show at_ + j - at_ = j by omega]; exact ⟨rfl, rfl⟩
  refine ⟨?_, fun a a0 a1 => ?_⟩
  · rw [rmb_rmt (by omega), rmb_rmt (by omega)]
    constructor
    · intro h k k0 k1 hk
      by_cases c1 : k < at_
      · have := h k k0 (by omega)
        show mF D (r.2.1 k) (va (col k)) = true
        have e : (bRw D np at_ mm r).2.1 k = r.2.1 k := (lo k c1).1
        rw [e, (lo k c1).2, hcol k k0 k1] at this
        exact this hk
      · by_cases c2 : k = at_
        · subst c2
          rcases hcase with ⟨z, -⟩ | ⟨hp, h0, h1, -⟩ | ⟨hp, h0, h2, hmm, hpt⟩
          · omega
          · rw [mF_1 h1, beq_iff_eq]; exact hhit hk
          · rw [mF_2 hw ht hp h2]
            refine ⟨hhit hk, fun j j0 j1 => ?_⟩
            have hpj := (((hw.2 _ hp).2.2.2.2.2.2.1 h2).2.2.1 j j0 j1).1
            rw [mF_l hw ht hpj]
            by_cases y : lF D (prt D (r.2.1 k) j) < 0
            · exact Or.inl y
            · right
              have := h (k + j) (by omega) (by omega)
              have e : (bRw D np k mm r).2.1 (k + j) = lF D (prt D (r.2.1 k) j) := by rw [← hpt]; exact (md j j0 (by omega)).1
              rw [e, (md j j0 (by omega)).2, hv2 j j0 (by omega)] at this
              exact this (by omega)
        · have := h (k + mm - 1) (by omega) (by omega)
          have e : (bRw D np at_ mm r).2.1 (k + mm - 1) = r.2.1 k := (hi k (by omega)).1
          rw [e, (hi k (by omega)).2, hcol k k0 k1] at this
          exact this hk
    · intro h k k0 k1 hk
      have hk : 0 ≤ bCl D at_ mm r.2.1 k := hk
      show mF D (bCl D at_ mm r.2.1 k) (va' (bCol col np at_ mm k)) = true
      by_cases c1 : k < at_
      · rw [(lo k c1).1] at hk ⊢
        rw [(lo k c1).2, hcol k k0 (by omega)]
        exact h k k0 (by omega) hk
      · by_cases c2 : k < at_ + mm
        · have e := md (k - at_) (by omega) (by omega)
          rw [show at_ + (k - at_) = k by omega] at e
          rw [e.1] at hk ⊢
          rw [e.2, hv2 _ (by omega) (by omega)]
          rcases hcase with ⟨-, z⟩ | ⟨-, -, -, z⟩ | ⟨hp, h0, h2, hmm, hpt⟩
          · rw [z, lF_neg (by omega)] at hk; omega
          · omega
          · rw [hpt] at hk ⊢
            have hpj := (((hw.2 _ hp).2.2.2.2.2.2.1 h2).2.2.1 (k - at_) (by omega) (by omega)).1
            have := ((mF_2 hw ht hp h2).mp (h at_ hat.1 hat.2 h0)).2 (k - at_) (by omega) (by omega)
            rw [mF_l hw ht hpj] at this
            rcases this with y | y
            · omega
            · exact y
        · have e := hi (k - mm + 1) (by omega)
          rw [show k - mm + 1 + mm - 1 = k by omega] at e
          rw [e.1] at hk ⊢
          rw [e.2, hcol _ (by omega) (by omega)]
          exact h _ (by omega) (by omega) hk
  · have hU' := nmU_bRw (np := np) hw hb hmr hat ho hne hin hm hU
    obtain ⟨u1, u2⟩ := hU a a0 a1
    have hnam : (bRw D np at_ mm r).2.2 a = bNm D (r.2.1 at_) np r.2.2 mm.toNat a := rfl
    refine rnv_eq hU hU' a0 a1 (fun z => ?_) (fun k k0 k1 hk hk2 => ?_) (fun z y => ?_)
    · have hno : ∀ j, 0 ≤ j → j < (mm.toNat : Int) → ¬ tF D (bPt D (r.2.1 at_) j) a = true := by
        intro j j0 j1 htl
        obtain ⟨p1, p2, -, -, p5, -, -⟩ := bPt_tl hw hb hat ho hne hin hm a0 a1 j0 (by omega) htl
        have := u1 at_ hat.1 hat.2 p2 p5
        omega
      rw [hnam, bNm_no _ hno]
      refine ⟨z, hv1 _ z ?_⟩
      rcases hnr a a0 a1 with y | y
      · omega
      · exact y.2
    · by_cases c2 : k = at_
      · subst c2
        rcases hcase with ⟨z, -⟩ | ⟨hp, h0, h1, -⟩ | ⟨hp, h0, h2, hmm, hpt⟩
        · omega
        · exact absurd hk2 ((hb _ hp a a0 a1).2.1 h1)
        · obtain ⟨j, j0, j1, j2⟩ := ((hb _ hp a a0 a1).2.2.1 h2).1.mp hk2
          have hpj := (((hw.2 _ hp).2.2.2.2.2.2.1 h2).2.2.1 j j0 j1).1
          rw [nvF_2 hw ht hb hp h2 a0 a1 j0 j1 j2, nvF_l hw ht hb hpj a0 a1 j2]
          by_cases y : tF D (prt D (r.2.1 k) j) a = true
          · have hno : ∀ i, 0 ≤ i → i < (mm.toNat : Int) → i ≠ j → ¬ tF D (bPt D (r.2.1 k) i) a = true := by
              intro i i0 i1 hij htl
              obtain ⟨-, -, -, -, -, p6, -⟩ := bPt_tl hw hb hat ho hne hin hm a0 a1 i0 (by omega) htl
              have hu := ((hb _ hp a a0 a1).2.2.1 h2).2
              by_cases z2 : i < j
              · exact hu i j i0 z2 j1 ⟨p6, j2⟩
              · exact hu j i j0 (by omega) (by omega) ⟨j2, p6⟩
            have e := bNm_at (D := D) (np := np) (p := r.2.1 k) (a := a) (j := j) (nam := r.2.2) mm.toNat j0 (by omega) (by rw [hpt]; exact y) hno
            have hn0 := hc.2.1
            rw [if_pos y, rnv_told (by rw [hnam, e]; omega), hnam, e, hv2 j j0 (by omega)]
          · rw [if_neg y]
            obtain ⟨x1, x2⟩ := ((lF_nm1 hw hb hpj a0 a1).1.mp j2).resolve_left y
            have e : (bRw D np k mm r).2.1 (k + j) = lF D (prt D (r.2.1 k) j) := by rw [← hpt]; exact (md j j0 (by omega)).1
            have := rnv_cell (col := bCol col np k mm) (va := va') hU' a0 a1 (k := k + j) (by omega) (by omega) (by rw [e]; exact x1) (by rw [e]; exact x2)
            rw [this, e, (md j j0 (by omega)).2, hv2 j j0 (by omega)]
      · by_cases c1 : k < at_
        · have e : (bRw D np at_ mm r).2.1 k = r.2.1 k := (lo k c1).1
          have := rnv_cell (col := bCol col np at_ mm) (va := va') hU' a0 a1 (k := k) k0 (by omega) (by rw [e]; exact hk) (by rw [e]; exact hk2)
          rw [this, e, (lo k c1).2, hcol k k0 k1]
        · have e : (bRw D np at_ mm r).2.1 (k + mm - 1) = r.2.1 k := (hi k (by omega)).1
          have := rnv_cell (col := bCol col np at_ mm) (va := va') hU' a0 a1 (k := k + mm - 1) (by omega) (by omega) (by rw [e]; exact hk) (by rw [e]; exact hk2)
          rw [this, e, (hi k (by omega)).2, hcol k k0 k1]
    · have hno : ∀ j, 0 ≤ j → j < (mm.toNat : Int) → ¬ tF D (bPt D (r.2.1 at_) j) a = true := by
        intro j j0 j1 htl
        obtain ⟨p1, p2, -, -, p5, -, -⟩ := bPt_tl hw hb hat ho hne hin hm a0 a1 j0 (by omega) htl
        exact y at_ hat.1 hat.2 ⟨p2, p5⟩
      rw [hnam, bNm_no _ hno]
      refine ⟨z, fun k k0 k1 x => ?_⟩
      rcases bCl_src hw hb hmr.1 hat ho hne hin hm a0 a1 k0 k1 x.1 x.2 with ⟨i, hi, -, hi3, hi4, -, -⟩ | ⟨-, -, -, q4, -, -, q5, -, -⟩
      · exact y i hi.1 hi.2 ⟨hi3, hi4⟩
      · exact y at_ hat.1 hat.2 ⟨q4, q5⟩
theorem out_bRs (hw : wfP D) (ht : wfT D) (hb : wfB D) (hc : okCo D w col np E) (hmr : 0 ≤ mm ∧ mm ≤ 3) (hat : 0 ≤ at_ ∧ at_ < w) (hm : mm = bMn D (E 88 (col at_)) key oth) (hv1 : ∀ x, 0 ≤ x → x < np → va' x = va x) (hv2 : ∀ j, 0 ≤ j → j < mm → va' (np + j) = D 66 (3 * va (col at_) + j)) : ∀ rows : List aR, (∀ r ∈ rows, okR D w col np E r ∧ ¬ (0 ≤ r.2.1 at_ ∧ D 68 (r.2.1 at_) = 4) ∧ rI D m w r) → (∀ r ∈ rows, 0 ≤ r.2.1 at_ → ((oth = false ∧ D 70 (r.2.1 at_) = key) ↔ D 65 (va (col at_)) = D 70 (r.2.1 at_))) →
    oEq (out D m (w - 1 + mm) (bCol col np at_ mm) va' (bRs D np at_ mm key oth rows)) (out D m w col va rows) := by
  intro rows
  induction rows with
  | nil => intro _ _; exact oEq_refl
  | cons r rs ih =>
    intro ho hh
    obtain ⟨o1, o2, o3⟩ := ho r (by simp)
    have ih := ih (fun q hq => ho q (List.mem_cons_of_mem _ hq)) (fun q hq => hh q (List.mem_cons_of_mem _ hq))
    have hr := hh r (by simp)
    unfold bRs
    by_cases c : r.2.1 at_ < 0 ∨ (oth = false ∧ D 70 (r.2.1 at_) = key)
    · rw [if_pos c, out_cs, out_cs]
      obtain ⟨s1, s2⟩ := bRw_same (va := va) (va' := va') hw ht hb hc hmr hat o1 o2 c hm o3.2.1 hv1 hv2 (fun z => (hr z).mp (by rcases c with y | y; omega; exact y))
      have e1 : (bRw D np at_ mm r).1 = r.1 := rfl
      have hcond : (rmb D (bCol col np at_ mm) va' (bRw D np at_ mm r) (w - 1 + mm).toNat 0 = true ∧ (D 79 (12 * m + r.1) < 0 ∨ D 65 (rnv D (w - 1 + mm) (bCol col np at_ mm) va' (bRw D np at_ mm r) (D 79 (12 * m + r.1))) < D 65 (rnv D (w - 1 + mm) (bCol col np at_ mm) va' (bRw D np at_ mm r) (D 80 (12 * m + r.1))))) ↔ (rmb D col va r w.toNat 0 = true ∧ (D 79 (12 * m + r.1) < 0 ∨ D 65 (rnv D w col va r (D 79 (12 * m + r.1))) < D 65 (rnv D w col va r (D 80 (12 * m + r.1))))) := by
        rw [s1]
        by_cases g : D 79 (12 * m + r.1) < 0
        · constructor
          · rintro ⟨x, -⟩; exact ⟨x, Or.inl g⟩
          · rintro ⟨x, -⟩; exact ⟨x, Or.inl g⟩
        · obtain ⟨x1, -⟩ := o3.1 (by omega) _ (Or.inl rfl)
          obtain ⟨x2, -⟩ := o3.1 (by omega) _ (Or.inr rfl)
          rw [s2 _ x1.1 x1.2, s2 _ x2.1 x2.2]
      rw [e1]
      by_cases c2 : rmb D col va r w.toNat 0 = true ∧ (D 79 (12 * m + r.1) < 0 ∨ D 65 (rnv D w col va r (D 79 (12 * m + r.1))) < D 65 (rnv D w col va r (D 80 (12 * m + r.1))))
      · rw [if_pos c2, if_pos (hcond.mpr c2)]
        exact ⟨rfl, s2⟩
      · rw [if_neg c2, if_neg (fun z => c2 (hcond.mp z))]
        exact ih
    · rw [if_neg c, out_cs]
      have h0 : 0 ≤ r.2.1 at_ := by
        by_cases z : r.2.1 at_ < 0
        · exact absurd (Or.inl z) c
        · omega
      rw [if_neg (fun z => ?_)]
      · exact ih
      · have hmt := (rmb_rmt hc.1).mp z.1 at_ hat.1 hat.2 h0
        have hneq : D 65 (va (col at_)) ≠ D 70 (r.2.1 at_) := fun y => c (Or.inr ((hr h0).mpr y))
        rcases okT_at hw o1.1 hat o2 with y | ⟨hp, -, hk | hk⟩
        · omega
        · rw [mF_1 hk, beq_iff_eq] at hmt; exact hneq hmt
        · exact hneq ((mF_2 hw ht hp hk).mp hmt).1
end SEM3
