/-! ===== rows of a match by their patterns ===== -/
/-- no name twice in a row -/
def wfU (D : xM) (m : Int) : Prop := ∀ r j k a, 0 ≤ r → r < D 77 m → 0 ≤ j → j < D 75 m → 0 ≤ k → k < D 75 m → j ≠ k → 0 ≤ a → a < 16 → ¬ (nmb D (rpt D m r j) a ∧ nmb D (rpt D m r k) a)
/-- no EITHER in a row with a guard -/
def wfQ (D : xM) (m : Int) : Prop := ∀ r, 0 ≤ r → r < D 77 m → 0 ≤ D 79 (12 * m + r) → ∀ k, 0 ≤ k → k < D 75 m → noE D (rpt D m r k)
/-- all the patterns of a row match -/
def mR (D : xM) (m : Int) (va : Int → Int) (r : Int) : Prop := ∀ k, 0 ≤ k → k < D 75 m → mF D (rpt D m r k) (va k) = true
/-- what a name of a row stands for -/
def nRc (D : xM) (m : Int) (va : Int → Int) (r a : Int) : Nat → Int
  | 0 => -1
  | k + 1 => if xand32 (xshr32 (D 73 (rpt D m r k)) a) 1 = 1 then nvF D (rpt D m r k) (va k) a else nRc D m va r a k
def nR (D : xM) (m : Int) (va : Int → Int) (r a : Int) : Int := nRc D m va r a (D 75 m).toNat
/-- a row is taken -/
def tkR (D : xM) (m : Int) (va : Int → Int) (r : Int) : Prop := mR D m va r ∧ (D 79 (12 * m + r) < 0 ∨ D 65 (nR D m va r (D 79 (12 * m + r))) < D 65 (nR D m va r (D 80 (12 * m + r))))
section RRT
variable {D : xM} {m r : Int} {va : Int → Int}
theorem nRc_no {a : Int} : ∀ n : Nat, (∀ k : Int, 0 ≤ k → k < n → ¬ nmb D (rpt D m r k) a) → nRc D m va r a n = -1 := by
  intro n
  induction n with
  | zero => intro _; rfl
  | succ n ih =>
    intro h
    show (if xand32 (xshr32 (D 73 (rpt D m r n)) a) 1 = 1 then _ else nRc D m va r a n) = _
    rw [if_neg (show ¬ xand32 (xshr32 (D 73 (rpt D m r n)) a) 1 = 1 from h n (by omega) (by omega))]
    exact ih (fun k k0 k1 => h k k0 (by omega))
theorem nRc_at {a i : Int} : ∀ n : Nat, 0 ≤ i → i < n → nmb D (rpt D m r i) a → (∀ k : Int, 0 ≤ k → k < n → k ≠ i → ¬ nmb D (rpt D m r k) a) → nRc D m va r a n = nvF D (rpt D m r i) (va i) a := by
  intro n
  induction n with
  | zero => intro i0 i1; omega
  | succ n ih =>
    intro i0 i1 hi hno
    show (if xand32 (xshr32 (D 73 (rpt D m r n)) a) 1 = 1 then nvF D (rpt D m r n) (va n) a else nRc D m va r a n) = _
    by_cases z : i = n
    · subst z; exact if_pos hi
    · rw [if_neg (show ¬ xand32 (xshr32 (D 73 (rpt D m r n)) a) 1 = 1 from hno n (by omega) (by omega) (fun y => z y.symm))]
      exact ih i0 (by omega) hi (fun k k0 k1 => hno k k0 (by omega))
theorem nR_at {a i : Int} (hU : wfU D m) (r0 : 0 ≤ r) (r1 : r < D 77 m) (a0 : 0 ≤ a) (a1 : a < 16) (i0 : 0 ≤ i) (i1 : i < D 75 m) (h : nmb D (rpt D m r i) a) : nR D m va r a = nvF D (rpt D m r i) (va i) a :=
  nRc_at _ i0 (by omega) h (fun k k0 k1 hk z => hU r k i a r0 r1 k0 (by omega) i0 i1 hk a0 a1 ⟨z, h⟩)
theorem nR_no {a : Int} (h : ∀ k, 0 ≤ k → k < D 75 m → ¬ nmb D (rpt D m r k) a) : nR D m va r a = -1 :=
  nRc_no _ (fun k k0 k1 => h k k0 (by omega))
theorem rno_U (hw : wfP D) (hb : wfB D) (hM : wfM D m) (hU : wfU D m) (r0 : 0 ≤ r) (r1 : r < D 77 m) : rno D m r := by
  intro i j a i0 i1 j0 j1 a0 a1 hij h1 h2
  have p1 := (hM.2.2.2.2 r i r0 r1 i0 i1).1
  have p2 := (hM.2.2.2.2 r j r0 r1 j0 j1).1
  exact hU r i j a r0 r1 i0 i1 j0 j1 hij a0 a1 ⟨(lF_nm1 hw hb p1 a0 a1).1.mpr (Or.inl h1), (lF_nm1 hw hb p2 a0 a1).1.mpr (Or.inl h2)⟩
theorem rtR_c {k : Int} (k0 : 0 ≤ k) (k1 : k < D 75 m) : (rtR D m r).2.1 k = lF D (rpt D m r k) := by
  show (if 0 ≤ k ∧ k < D 75 m then _ else _) = _
  rw [if_pos ⟨k0, k1⟩]; rfl
theorem nmU_rt (hw : wfP D) (hb : wfB D) (hM : wfM D m) (hU : wfU D m) (r0 : 0 ≤ r) (r1 : r < D 77 m) : nmU D (D 75 m) (rtR D m r) := by
  intro a a0 a1
  have h75 := hM.2.1
  have nm : ∀ k, 0 ≤ k → k < D 75 m → 0 ≤ lF D (rpt D m r k) → nmb D (lF D (rpt D m r k)) a → nmb D (rpt D m r k) a := fun k k0 k1 h1 h2 => (lF_nm1 hw hb (hM.2.2.2.2 r k r0 r1 k0 k1).1 a0 a1).1.mpr (Or.inr ⟨h1, h2⟩)
  refine ⟨fun k k0 k1 h1 h2 => ?_, fun j k j0 j1 k0 k1 hjk h1 h2 h3 => ?_⟩
  · rw [rtR_c k0 k1] at h1 h2
    have hk := nm k k0 k1 h1 h2
    have : rtN D m r (D 75 m).toNat a = -1 := rtN_no _ (fun i i0 i1 hi => by
      have pi := (hM.2.2.2.2 r i r0 r1 i0 (by omega)).1
      by_cases z : i = k
      · subst z; exact (lF_nm1 hw hb pi a0 a1).2 ⟨hi, h1, h2⟩
      · exact hU r i k a r0 r1 i0 (by omega) k0 k1 z a0 a1 ⟨(lF_nm1 hw hb pi a0 a1).1.mpr (Or.inl hi), hk⟩)
    show rtN D m r (D 75 m).toNat a < 0
    omega
  · rw [rtR_c j0 j1] at h1 h3
    rw [rtR_c k0 k1] at h2 h3
    exact hU r j k a r0 r1 j0 j1 k0 k1 hjk a0 a1 ⟨nm j j0 j1 h1 h3.1, nm k k0 k1 h2 h3.2⟩
theorem noE_lf (hw : wfP D) (he : wfE D) : ∀ (n : Nat) (p : Int), isP D p → noE D p → 0 ≤ lft D n p → noE D (lft D n p) := by
  intro n
  induction n with
  | zero => intro p _ _ h; exact absurd (show (0 : Int) ≤ -1 from h) (by decide)
  | succ n ih =>
    intro p hp hE h
    have hp0 := hp.1
    unfold lft at h ⊢
    rw [if_neg (by omega)] at h ⊢
    by_cases h3 : D 68 p = 3
    · rw [if_pos h3] at h ⊢
      rw [prt_0 (D := D) (p := p)] at h ⊢
      exact ih _ ((hw.2 p hp).2.2.2.2.2.2.2.1 h3).2.1 ((he p hp hE).2.2 h3) h
    · rw [if_neg h3] at h ⊢
      by_cases h0 : D 68 p = 0
      · rw [if_pos h0] at h; exact absurd h (by decide)
      · rw [if_neg h0]; exact hE
theorem rI_root (hw : wfP D) (hb : wfB D) (he : wfE D) (hM : wfM D m) (hG : wfG D m) (hU : wfU D m) (hQ : wfQ D m) : ∀ q ∈ rtL D m (D 77 m).toNat, rI D m (D 75 m) q := by
  intro q hq
  have h77 := hM.2.2.1
  refine ⟨root_gd hw hb hM hG q hq, ?_⟩
  obtain ⟨i, hi, rfl⟩ := rtL_mem _ hq
  refine ⟨nmU_rt hw hb hM hU (by omega) (by omega), fun g k k0 k1 h => ?_⟩
  rw [rtR_c k0 k1] at h ⊢
  exact noE_lf hw he 41 _ (hM.2.2.2.2 i k (by omega) (by omega) k0 k1).1 (hQ i (by omega) (by omega) g k k0 k1) h
theorem rmb_rt (hw : wfP D) (ht : wfT D) (hM : wfM D m) (r0 : 0 ≤ r) (r1 : r < D 77 m) : rmb D (fun k => k) va (rtR D m r) (D 75 m).toNat 0 = true ↔ mR D m va r := by
  have h75 := hM.2.1
  rw [rmb_rmt (by omega)]
  constructor
  · intro h k k0 k1
    refine (mF_l hw ht (hM.2.2.2.2 r k r0 r1 k0 k1).1).mpr ?_
    by_cases z : lF D (rpt D m r k) < 0
    · exact Or.inl z
    · have := h k k0 k1 (by rw [rtR_c k0 k1]; omega)
      rw [rtR_c k0 k1] at this
      exact Or.inr this
  · intro h k k0 k1 hk
    rw [rtR_c k0 k1] at hk ⊢
    rcases (mF_l hw ht (hM.2.2.2.2 r k r0 r1 k0 k1).1).mp (h k k0 k1) with z | z
    · have z : lF D (rpt D m r k) < 0 := z
      omega
    · exact z
theorem rnv_rt {a : Int} (hw : wfP D) (ht : wfT D) (hb : wfB D) (hM : wfM D m) (hU : wfU D m) (r0 : 0 ≤ r) (r1 : r < D 77 m) (a0 : 0 ≤ a) (a1 : a < 16) : rnv D (D 75 m) (fun k => k) va (rtR D m r) a = nR D m va r a := by
  have h75 := hM.2.1
  have hP : ∀ k, 0 ≤ k → k < D 75 m → isP D (rpt D m r k) := fun k k0 k1 => (hM.2.2.2.2 r k r0 r1 k0 k1).1
  by_cases hx : ∃ k, (0 ≤ k ∧ k < D 75 m) ∧ nmb D (rpt D m r k) a
  · obtain ⟨k, ⟨k0, k1⟩, hk⟩ := hx
    rw [nR_at hU r0 r1 a0 a1 k0 k1 hk, nvF_l hw ht hb (hP k k0 k1) a0 a1 hk]
    by_cases z : tF D (rpt D m r k) a = true
    · rw [if_pos z]
      have : (rtR D m r).2.2 a = k := rtN_at _ k0 (by omega) z (fun j j0 j1 hj hz => rno_U hw hb hM hU r0 r1 j k a j0 (by omega) k0 k1 a0 a1 hj hz z)
      rw [rnv_told (by rw [this]; exact k0), this]
    · rw [if_neg z]
      rcases (lF_nm1 hw hb (hP k k0 k1) a0 a1).1.mp hk with y | y
      · exact absurd y z
      · rw [rnv_cell (k := k) (nmU_rt hw hb hM hU r0 r1) a0 a1 k0 k1 (by rw [rtR_c k0 k1]; exact y.1) (by rw [rtR_c k0 k1]; exact y.2), rtR_c k0 k1]
  · have hno : ∀ k, 0 ≤ k → k < D 75 m → ¬ nmb D (rpt D m r k) a := fun k k0 k1 hk => hx ⟨k, ⟨k0, k1⟩, hk⟩
    rw [nR_no hno]
    refine rnv_none ?_ (fun k k0 k1 hk => ?_)
    · have : rtN D m r (D 75 m).toNat a = -1 := rtN_no _ (fun i i0 i1 hi => hno i i0 (by omega) ((lF_nm1 hw hb (hP i i0 (by omega)) a0 a1).1.mpr (Or.inl hi)))
      show rtN D m r (D 75 m).toNat a < 0
      omega
    · rw [rtR_c k0 k1] at hk
      exact hno k k0 k1 ((lF_nm1 hw hb (hP k k0 k1) a0 a1).1.mpr (Or.inr hk))
theorem rtL_sp : ∀ (n i : Nat), i < n → ∃ B, rtL D m n = rtL D m i ++ rtR D m i :: B := by
  intro n
  induction n with
  | zero => intro i h; omega
  | succ n ih =>
    intro i h
    by_cases z : i = n
    · subst z; exact ⟨[], rfl⟩
    · obtain ⟨B, hB⟩ := ih i (by omega)
      exact ⟨B ++ [rtR D m n], by show rtL D m n ++ [rtR D m n] = _; rw [hB]; simp⟩
theorem out_pre {w : Int} {col : Int → Int} {rest : List aR} : ∀ A : List aR, (∀ q ∈ A, ¬ rtk D m w col va q) → out D m w col va (A ++ rest) = out D m w col va rest := by
  intro A
  induction A with
  | nil => intro _; rfl
  | cons q A ih =>
    intro h
    have hq := h q (by simp)
    unfold rtk at hq
    rw [List.cons_append, out_cs, if_neg hq]
    exact ih (fun x hx => h x (by simp [hx]))
theorem rtk_rt (hw : wfP D) (ht : wfT D) (hb : wfB D) (hM : wfM D m) (hG : wfG D m) (hU : wfU D m) (r0 : 0 ≤ r) (r1 : r < D 77 m) : rtk D m (D 75 m) (fun k => k) va (rtR D m r) ↔ tkR D m va r := by
  unfold rtk tkR
  rw [rmb_rt hw ht hM r0 r1]
  show (mR D m va r ∧ (D 79 (12 * m + r) < 0 ∨ D 65 (rnv D (D 75 m) (fun k => k) va (rtR D m r) (D 79 (12 * m + r))) < D 65 (rnv D (D 75 m) (fun k => k) va (rtR D m r) (D 80 (12 * m + r))))) ↔ _
  by_cases z : D 79 (12 * m + r) < 0
  · exact ⟨fun y => ⟨y.1, Or.inl z⟩, fun y => ⟨y.1, Or.inl z⟩⟩
  · have g1 := (hG r r0 r1 (by omega) _ (Or.inl rfl)).1
    have g2 := (hG r r0 r1 (by omega) _ (Or.inr rfl)).1
    rw [rnv_rt hw ht hb hM hU r0 r1 g1.1 g1.2, rnv_rt hw ht hb hM hU r0 r1 g2.1 g2.2]
/-- the first row that is taken -/
theorem out_rt (hw : wfP D) (ht : wfT D) (hb : wfB D) (hM : wfM D m) (hG : wfG D m) (hU : wfU D m) (r0 : 0 ≤ r) (r1 : r < D 77 m) (hr : tkR D m va r) (hno : ∀ j, 0 ≤ j → j < r → ¬ tkR D m va j) : oEq (out D m (D 75 m) (fun k => k) va (rtL D m (D 77 m).toNat)) (r, nR D m va r) := by
  obtain ⟨B, hB⟩ := rtL_sp (D := D) (m := m) (D 77 m).toNat r.toNat (by omega)
  have er : ((r.toNat : Nat) : Int) = r := by omega
  rw [hB, out_pre _ (fun q hq => ?_), out_cs, if_pos]
  · rw [er]
    exact ⟨rfl, fun a a0 a1 => rnv_rt hw ht hb hM hU r0 r1 a0 a1⟩
  · rw [er]; exact (rtk_rt hw ht hb hM hG hU r0 r1).mpr hr
  · obtain ⟨i, hi, rfl⟩ := rtL_mem _ hq
    exact fun z => hno i (by omega) (by omega) ((rtk_rt hw ht hb hM hG hU (by omega) (by omega)).mp z)
theorem out_no (hw : wfP D) (ht : wfT D) (hb : wfB D) (hM : wfM D m) (hG : wfG D m) (hU : wfU D m) (hno : ∀ j, 0 ≤ j → j < D 77 m → ¬ tkR D m va j) : out D m (D 75 m) (fun k => k) va (rtL D m (D 77 m).toNat) = (-1, fun _ => -1) := by
  have h77 := hM.2.2.1
  have := out_pre (D := D) (m := m) (va := va) (w := D 75 m) (col := fun k => k) (rest := []) (rtL D m (D 77 m).toNat) (fun q hq => by
    obtain ⟨i, hi, rfl⟩ := rtL_mem _ hq
    exact fun z => hno i (by omega) (by omega) ((rtk_rt hw ht hb hM hG hU (by omega) (by omega)).mp z))
  rw [List.append_nil] at this
  exact this
end RRT
