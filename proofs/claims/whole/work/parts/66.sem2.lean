/-! ===== which row of a node is taken ===== -/
section SEM2
variable {D E : xM} {m w np at_ : Int} {col va : Int → Int}
/-- all that a row still asks for matches -/
def rmt (D : xM) (w : Int) (col va : Int → Int) (r : aR) : Prop := ∀ k, 0 ≤ k → k < w → 0 ≤ r.2.1 k → mF D (r.2.1 k) (va (col k)) = true
def rmb (D : xM) (col va : Int → Int) (r : aR) : Nat → Int → Bool
  | 0, _ => true
  | n + 1, k => (decide (r.2.1 k < 0) || mF D (r.2.1 k) (va (col k))) && rmb D col va r n (k + 1)
theorem rmb_iff {r : aR} : ∀ (n : Nat) (k : Int), rmb D col va r n k = true ↔ ∀ j, k ≤ j → j < k + n → 0 ≤ r.2.1 j → mF D (r.2.1 j) (va (col j)) = true := by
  intro n
  induction n with
  | zero => intro k; exact ⟨fun _ j h1 h2 => by omega, fun _ => rfl⟩
  | succ n ih =>
    intro k
    unfold rmb
    rw [Bool.and_eq_true, Bool.or_eq_true, decide_eq_true_eq, ih]
    constructor
    · rintro ⟨a, b⟩ j j0 j1 hj
      by_cases z : j = k
      · subst z; rcases a with a | a
        · omega
        · exact a
      · exact b j (by omega) (by omega) hj
    · intro h
      refine ⟨?_, fun j j0 j1 => h j (by omega) (by omega)⟩
      by_cases z : r.2.1 k < 0
      · exact Or.inl z
      · exact Or.inr (h k (by omega) (by omega) (by omega))
theorem rmb_rmt {r : aR} (hw : 0 ≤ w) : rmb D col va r w.toNat 0 = true ↔ rmt D w col va r := by
  rw [rmb_iff]
  constructor
  · intro h k k0 k1 hk; exact h k k0 (by omega) hk
  · intro h k k0 k1 hk; exact h k k0 (by omega) hk
/-- what a name of a row stands for -/
def rnc (D : xM) (col va : Int → Int) (r : aR) (a : Int) : Nat → Int → Int
  | 0, _ => -1
  | n + 1, k => if 0 ≤ r.2.1 k ∧ xand32 (xshr32 (D 73 (r.2.1 k)) a) 1 = 1 then nvF D (r.2.1 k) (va (col k)) a else rnc D col va r a n (k + 1)
def rnv (D : xM) (w : Int) (col va : Int → Int) (r : aR) (a : Int) : Int := if 0 ≤ r.2.2 a then va (r.2.2 a) else rnc D col va r a w.toNat 0
theorem rnc_at {r : aR} {a j : Int} : ∀ (n : Nat) (k : Int), k ≤ j → j < k + n → 0 ≤ r.2.1 j → nmb D (r.2.1 j) a → (∀ i, k ≤ i → i < k + n → i ≠ j → ¬ (0 ≤ r.2.1 i ∧ nmb D (r.2.1 i) a)) → rnc D col va r a n k = nvF D (r.2.1 j) (va (col j)) a := by
  intro n
  induction n with
  | zero => intro k h1 h2; omega
  | succ n ih =>
    intro k h1 h2 h3 h4 h5
    unfold rnc
    by_cases z : k = j
    · subst z; rw [if_pos ⟨h3, h4⟩]
    · rw [if_neg (show ¬ (0 ≤ r.2.1 k ∧ xand32 (xshr32 (D 73 (r.2.1 k)) a) 1 = 1) from h5 k (by omega) (by omega) z)]
      exact ih (k + 1) (by omega) (by omega) h3 h4 (fun i i0 i1 i2 => h5 i (by omega) (by omega) i2)
theorem rnc_no {r : aR} {a : Int} : ∀ (n : Nat) (k : Int), (∀ i, k ≤ i → i < k + n → ¬ (0 ≤ r.2.1 i ∧ nmb D (r.2.1 i) a)) → rnc D col va r a n k = -1 := by
  intro n
  induction n with
  | zero => intro k _; rfl
  | succ n ih =>
    intro k h
    unfold rnc
    rw [if_neg (show ¬ (0 ≤ r.2.1 k ∧ xand32 (xshr32 (D 73 (r.2.1 k)) a) 1 = 1) from h k (by omega) (by omega))]
    exact ih (k + 1) (fun i i0 i1 => h i (by omega) (by omega))
/-- no name stands twice -/
def nmU (D : xM) (w : Int) (r : aR) : Prop := ∀ a, 0 ≤ a → a < 16 → (∀ k, 0 ≤ k → k < w → 0 ≤ r.2.1 k → nmb D (r.2.1 k) a → r.2.2 a < 0) ∧ ∀ j k, 0 ≤ j → j < w → 0 ≤ k → k < w → j ≠ k → 0 ≤ r.2.1 j → 0 ≤ r.2.1 k → ¬ (nmb D (r.2.1 j) a ∧ nmb D (r.2.1 k) a)
theorem rnv_told {r : aR} {a : Int} (h : 0 ≤ r.2.2 a) : rnv D w col va r a = va (r.2.2 a) := by unfold rnv; rw [if_pos h]
theorem rnv_cell {r : aR} {a k : Int} (hU : nmU D w r) (a0 : 0 ≤ a) (a1 : a < 16) (k0 : 0 ≤ k) (k1 : k < w) (h0 : 0 ≤ r.2.1 k) (h1 : nmb D (r.2.1 k) a) : rnv D w col va r a = nvF D (r.2.1 k) (va (col k)) a := by
  unfold rnv
  have := (hU a a0 a1).1 k k0 k1 h0 h1
  rw [if_neg (by omega)]
  exact rnc_at w.toNat 0 k0 (by omega) h0 h1 (fun i i0 i1 i2 z => (hU a a0 a1).2 i k i0 (by omega) k0 k1 i2 z.1 h0 ⟨z.2, h1⟩)
theorem rnv_none {r : aR} {a : Int} (h : r.2.2 a < 0) (h2 : ∀ k, 0 ≤ k → k < w → ¬ (0 ≤ r.2.1 k ∧ nmb D (r.2.1 k) a)) : rnv D w col va r a = -1 := by
  unfold rnv
  rw [if_neg (by omega)]
  exact rnc_no w.toNat 0 (fun i i0 i1 => h2 i i0 (by omega))
/-- the same name in two rows -/
theorem rnv_eq {r r' : aR} {w' : Int} {col' va' : Int → Int} {a : Int} (hU : nmU D w r) (hU' : nmU D w' r') (a0 : 0 ≤ a) (a1 : a < 16)
    (h1 : 0 ≤ r.2.2 a → 0 ≤ r'.2.2 a ∧ va' (r'.2.2 a) = va (r.2.2 a))
    (h2 : ∀ k, 0 ≤ k → k < w → 0 ≤ r.2.1 k → nmb D (r.2.1 k) a → rnv D w' col' va' r' a = nvF D (r.2.1 k) (va (col k)) a)
    (h3 : r.2.2 a < 0 → (∀ k, 0 ≤ k → k < w → ¬ (0 ≤ r.2.1 k ∧ nmb D (r.2.1 k) a)) → r'.2.2 a < 0 ∧ ∀ k, 0 ≤ k → k < w' → ¬ (0 ≤ r'.2.1 k ∧ nmb D (r'.2.1 k) a)) : rnv D w' col' va' r' a = rnv D w col va r a := by
  by_cases z : 0 ≤ r.2.2 a
  · obtain ⟨u, v⟩ := h1 z
    rw [rnv_told z, rnv_told u, v]
  · by_cases y : ∃ k, (0 ≤ k ∧ k < w) ∧ 0 ≤ r.2.1 k ∧ nmb D (r.2.1 k) a
    · obtain ⟨k, hk, hk1, hk2⟩ := y
      rw [h2 k hk.1 hk.2 hk1 hk2, rnv_cell hU a0 a1 hk.1 hk.2 hk1 hk2]
    · have hno : ∀ k, 0 ≤ k → k < w → ¬ (0 ≤ r.2.1 k ∧ nmb D (r.2.1 k) a) := fun k k0 k1 x => y ⟨k, ⟨k0, k1⟩, x⟩
      obtain ⟨u, v⟩ := h3 (by omega) hno
      rw [rnv_none (by omega) hno, rnv_none u v]
/-- no EITHER in it -/
def noE (D : xM) (p : Int) : Prop := D 74 p = 0
def wfE (D : xM) : Prop := ∀ p, isP D p → noE D p → D 68 p ≠ 4 ∧ (D 68 p = 2 → ∀ j, 0 ≤ j → j < pct D p → noE D (prt D p j)) ∧ (D 68 p = 3 → noE D (prt D p 0))
/-- a row as it should be: its guard's names are there, no name twice, no EITHER with a guard -/
def rI (D : xM) (m w : Int) (r : aR) : Prop := gdI D m w r ∧ nmU D w r ∧ (0 ≤ D 79 (12 * m + r.1) → ∀ k, 0 ≤ k → k < w → 0 ≤ r.2.1 k → noE D (r.2.1 k))
/-- the row is taken -/
def rtk (D : xM) (m w : Int) (col va : Int → Int) (r : aR) : Prop := rmb D col va r w.toNat 0 = true ∧ (D 79 (12 * m + r.1) < 0 ∨ D 65 (rnv D w col va r (D 79 (12 * m + r.1))) < D 65 (rnv D w col va r (D 80 (12 * m + r.1))))
/-- the first row that is taken, and its names -/
def out (D : xM) (m w : Int) (col va : Int → Int) : List aR → Int × (Int → Int)
  | [] => (-1, fun _ => -1)
  | r :: rs => if rmb D col va r w.toNat 0 = true ∧ (D 79 (12 * m + r.1) < 0 ∨ D 65 (rnv D w col va r (D 79 (12 * m + r.1))) < D 65 (rnv D w col va r (D 80 (12 * m + r.1)))) then (r.1, rnv D w col va r) else out D m w col va rs
theorem out_cs {r : aR} {rs : List aR} : out D m w col va (r :: rs) = if rmb D col va r w.toNat 0 = true ∧ (D 79 (12 * m + r.1) < 0 ∨ D 65 (rnv D w col va r (D 79 (12 * m + r.1))) < D 65 (rnv D w col va r (D 80 (12 * m + r.1)))) then (r.1, rnv D w col va r) else out D m w col va rs := rfl
/-- two answers alike -/
def oEq (x y : Int × (Int → Int)) : Prop := x.1 = y.1 ∧ ∀ a, 0 ≤ a → a < 16 → x.2 a = y.2 a
theorem oEq_refl {x : Int × (Int → Int)} : oEq x x := ⟨rfl, fun _ _ _ => rfl⟩
theorem oEq_trans {x y z : Int × (Int → Int)} (h : oEq x y) (h2 : oEq y z) : oEq x z := ⟨h.1.trans h2.1, fun a a0 a1 => (h.2 a a0 a1).trans (h2.2 a a0 a1)⟩
theorem oEq_symm {x y : Int × (Int → Int)} (h : oEq x y) : oEq y x := ⟨h.1.symm, fun a a0 a1 => (h.2 a a0 a1).symm⟩
theorem out_cons {r : aR} {rs rs' : List aR} (h : oEq (out D m w col va rs) (out D m w col va rs')) : oEq (out D m w col va (r :: rs)) (out D m w col va (r :: rs')) := by
  unfold out
  split
  · exact oEq_refl
  · exact h
theorem out_app {rs rs' : List aR} : ∀ (a : List aR), oEq (out D m w col va rs) (out D m w col va rs') → oEq (out D m w col va (a ++ rs)) (out D m w col va (a ++ rs')) := by
  intro a h
  induction a with
  | nil => exact h
  | cons r a ih => exact out_cons ih
/-- a split row's names stand once -/
theorem nmU_spl (hw : wfP D) (hb : wfB D) (hc : okCo D w col np E) {r : aR} {j : Int} (ho : okT D w col E r) (hat : 0 ≤ at_ ∧ at_ < w) (hE : 0 ≤ r.2.1 at_) (h4 : D 68 (r.2.1 at_) = 4) (j0 : 0 ≤ j) (j1 : j < 2) (hU : nmU D w r) : nmU D w (spl D col at_ r j) := by
  have hp := okT_P ho hat.1 hat.2 hE
  obtain ⟨p1, -, -⟩ := ((hw.2 _ hp).2.2.2.2.2.2.2.2 h4).1 j j0 j1
  intro a a0 a1
  have hn := lF_nm1 hw hb p1 a0 a1
  have hpj : nmb D (r.2.1 at_) a ↔ nmb D (prt D (r.2.1 at_) j) a := by
    have b4 := (hb _ hp a a0 a1).2.2.2.2 h4
    by_cases z : j = 0
    · rw [z]; exact b4.1
    · have : j = 1 := by omega
      rw [this]; exact b4.2
  obtain ⟨u1, u2⟩ := hU a a0 a1
  have cellk : ∀ k, k ≠ at_ → (spl D col at_ r j).2.1 k = r.2.1 k := by intro k hk; show uf _ _ _ k = _; unfold uf; rw [if_neg hk]
  have cella : (spl D col at_ r j).2.1 at_ = lF D (prt D (r.2.1 at_) j) := by show uf _ _ _ at_ = _; unfold uf; rw [if_pos rfl]
  refine ⟨fun k k0 k1 hk hk2 => ?_, fun i k i0 i1 k0 k1 hik hi hk hh => ?_⟩
  · show (if tF D (prt D (r.2.1 at_) j) a = true then col at_ else r.2.2 a) < 0
    by_cases z : k = at_
    · subst z
      rw [cella] at hk hk2
      rw [if_neg (fun y => hn.2 ⟨y, hk, hk2⟩)]
      exact u1 k k0 k1 hE (hpj.mpr (hn.1.mpr (Or.inr ⟨hk, hk2⟩)))
    · rw [cellk k z] at hk hk2
      rw [if_neg (fun y => u2 k at_ k0 k1 hat.1 hat.2 z hk hE ⟨hk2, hpj.mpr (hn.1.mpr (Or.inl y))⟩)]
      exact u1 k k0 k1 hk hk2
  · by_cases z : i = at_
    · subst z
      rw [cella] at hi hh
      rw [cellk k (fun y => hik y.symm)] at hk hh
      exact u2 i k i0 i1 k0 k1 hik hE hk ⟨hpj.mpr (hn.1.mpr (Or.inr ⟨hi, hh.1⟩)), hh.2⟩
    · by_cases y : k = at_
      · subst y
        rw [cella] at hk hh
        rw [cellk i z] at hi hh
        exact u2 i k i0 i1 k0 k1 hik hi hE ⟨hh.1, hpj.mpr (hn.1.mpr (Or.inr ⟨hk, hh.2⟩))⟩
      · rw [cellk i z] at hi hh
        rw [cellk k y] at hk hh
        exact u2 i k i0 i1 k0 k1 hik hi hk hh
theorem rI_spl (hw : wfP D) (hb : wfB D) (he : wfE D) (hc : okCo D w col np E) {r : aR} {j : Int} (ho : okT D w col E r) (hat : 0 ≤ at_ ∧ at_ < w) (hE : 0 ≤ r.2.1 at_) (h4 : D 68 (r.2.1 at_) = 4) (j0 : 0 ≤ j) (j1 : j < 2) (hI : rI D m w r) : rI D m w (spl D col at_ r j) := by
  refine ⟨gdI_spl hw hb hc hat.1 hat.2 ho hE h4 j0 j1 hI.1, nmU_spl hw hb hc ho hat hE h4 j0 j1 hI.2.1, fun g => ?_⟩
  have := hI.2.2 g at_ hat.1 hat.2 hE
  exact absurd h4 (he _ (okT_P ho hat.1 hat.2 hE) this).1
/-- the two rows of EITHER take what it takes -/
theorem out_spl (hw : wfP D) (ht : wfT D) (hb : wfB D) (he : wfE D) (hc : okCo D w col np E) {r : aR} {rs : List aR} (ho : okT D w col E r) (hat : 0 ≤ at_ ∧ at_ < w) (hE : 0 ≤ r.2.1 at_) (h4 : D 68 (r.2.1 at_) = 4) (hI : rI D m w r) : oEq (out D m w col va (spl D col at_ r 0 :: spl D col at_ r 1 :: rs)) (out D m w col va (r :: rs)) := by
  have hp := okT_P ho hat.1 hat.2 hE
  have hgd : D 79 (12 * m + r.1) < 0 := by
    by_cases z : D 79 (12 * m + r.1) < 0
    · exact z
    · exact absurd h4 (he _ hp (hI.2.2 (by omega) at_ hat.1 hat.2 hE)).1
  have hpj : ∀ j, 0 ≤ j → j < 2 → isP D (prt D (r.2.1 at_) j) := fun j j0 j1 => (((hw.2 _ hp).2.2.2.2.2.2.2.2 h4).1 j j0 j1).1
  have cellk : ∀ j k, k ≠ at_ → (spl D col at_ r j).2.1 k = r.2.1 k := by intro j k hk; show uf _ _ _ k = _; unfold uf; rw [if_neg hk]
  have cella : ∀ j, (spl D col at_ r j).2.1 at_ = lF D (prt D (r.2.1 at_) j) := by intro j; show uf _ _ _ at_ = _; unfold uf; rw [if_pos rfl]
  have hws := hc.1
  -- what matches
  have hrm : ∀ j, 0 ≤ j → j < 2 → (rmb D col va (spl D col at_ r j) w.toNat 0 = true ↔ (∀ k, 0 ≤ k → k < w → k ≠ at_ → 0 ≤ r.2.1 k → mF D (r.2.1 k) (va (col k)) = true) ∧ mF D (prt D (r.2.1 at_) j) (va (col at_)) = true) := by
    intro j j0 j1
    rw [rmb_rmt hws, mF_l hw ht (hpj j j0 j1)]
    constructor
    · intro h
      refine ⟨fun k k0 k1 hk hk2 => ?_, ?_⟩
      · have := h k k0 k1
        rw [cellk j k hk] at this
        exact this hk2
      · have := h at_ hat.1 hat.2
        rw [cella j] at this
        by_cases z : lF D (prt D (r.2.1 at_) j) < 0
        · exact Or.inl z
        · exact Or.inr (this (by omega))
    · rintro ⟨h1, h2⟩ k k0 k1 hk
      by_cases z : k = at_
      · subst z
        rw [cella j] at hk ⊢
        rcases h2 with y | y
        · omega
        · exact y
      · rw [cellk j k z] at hk ⊢
        exact h1 k k0 k1 z hk
  have hrm0 : rmb D col va r w.toNat 0 = true ↔ (∀ k, 0 ≤ k → k < w → k ≠ at_ → 0 ≤ r.2.1 k → mF D (r.2.1 k) (va (col k)) = true) ∧ (mF D (prt D (r.2.1 at_) 0) (va (col at_)) = true ∨ mF D (prt D (r.2.1 at_) 1) (va (col at_)) = true) := by
    rw [rmb_rmt hws]
    constructor
    · intro h
      refine ⟨fun k k0 k1 _ hk => h k k0 k1 hk, ?_⟩
      have := h at_ hat.1 hat.2 hE
      rw [mF_4 hw ht hp h4, Bool.or_eq_true] at this
      exact this
    · rintro ⟨h1, h2⟩ k k0 k1 hk
      by_cases z : k = at_
      · subst z; rw [mF_4 hw ht hp h4, Bool.or_eq_true]; exact h2
      · exact h1 k k0 k1 z hk
  -- what the names stand for
  have hnm : ∀ j, 0 ≤ j → j < 2 → ((j = 0 ∧ mF D (prt D (r.2.1 at_) 0) (va (col at_)) = true) ∨ (j = 1 ∧ ¬ mF D (prt D (r.2.1 at_) 0) (va (col at_)) = true)) → ∀ a, 0 ≤ a → a < 16 → rnv D w col va (spl D col at_ r j) a = rnv D w col va r a := by
    intro j j0 j1 hj a a0 a1
    have hU' := nmU_spl hw hb hc ho hat hE h4 j0 j1 hI.2.1
    have hn := lF_nm1 hw hb (hpj j j0 j1) a0 a1
    have hb4 : nmb D (r.2.1 at_) a ↔ nmb D (prt D (r.2.1 at_) j) a := by
      have b4 := (hb _ hp a a0 a1).2.2.2.2 h4
      by_cases z : j = 0
      · rw [z]; exact b4.1
      · have : j = 1 := by omega
        rw [this]; exact b4.2
    obtain ⟨u1, u2⟩ := hI.2.1 a a0 a1
    have hnam : (spl D col at_ r j).2.2 a = if tF D (prt D (r.2.1 at_) j) a = true then col at_ else r.2.2 a := rfl
    refine rnv_eq hI.2.1 hU' a0 a1 (fun z => ?_) (fun k k0 k1 hk hk2 => ?_) (fun z y => ?_)
    · have hnt : ¬ tF D (prt D (r.2.1 at_) j) a = true := by
        intro y
        have := u1 at_ hat.1 hat.2 hE (hb4.mpr (hn.1.mpr (Or.inl y)))
        omega
      rw [hnam, if_neg hnt]
      exact ⟨z, rfl⟩
    · by_cases z : k = at_
      · subst z
        have hvv : nvF D (r.2.1 k) (va (col k)) a = nvF D (prt D (r.2.1 k) j) (va (col k)) a := by
          rw [nvF_4 hw ht hp h4]
          rcases hj with ⟨y1, y2⟩ | ⟨y1, y2⟩
          · rw [if_pos y2, y1]
          · rw [if_neg y2, y1]
        rw [hvv, nvF_l hw ht hb (hpj j j0 j1) a0 a1 (hb4.mp hk2)]
        by_cases y : tF D (prt D (r.2.1 k) j) a = true
        · rw [if_pos y, rnv_told (by rw [hnam, if_pos y]; exact (hc.2.2.1 k k0 k1).1.1), hnam, if_pos y]
        · rw [if_neg y]
          obtain ⟨x1, x2⟩ := (hn.1.mp (hb4.mp hk2)).resolve_left y
          have := rnv_cell (col := col) (va := va) hU' a0 a1 k0 k1 (by rw [cella j]; exact x1) (by rw [cella j]; exact x2)
          rw [this, cella j]
      · have := rnv_cell (col := col) (va := va) hU' a0 a1 k0 k1 (by rw [cellk j k z]; exact hk) (by rw [cellk j k z]; exact hk2)
        rw [this, cellk j k z]
    · have hnp : ¬ nmb D (prt D (r.2.1 at_) j) a := fun x => y at_ hat.1 hat.2 ⟨hE, hb4.mpr x⟩
      rw [hnam, if_neg (fun x => hnp (hn.1.mpr (Or.inl x)))]
      refine ⟨z, fun k k0 k1 x => ?_⟩
      by_cases x2 : k = at_
      · subst x2; rw [cella j] at x; exact hnp (hn.1.mpr (Or.inr x))
      · rw [cellk j k x2] at x; exact y k k0 k1 x
  have e1 : ∀ j, (spl D col at_ r j).1 = r.1 := fun _ => rfl
  rw [out_cs, out_cs, out_cs, e1 0]
  by_cases c0 : rmb D col va (spl D col at_ r 0) w.toNat 0 = true
  · obtain ⟨x1, x2⟩ := (hrm 0 (by omega) (by omega)).mp c0
    rw [if_pos ⟨c0, Or.inl hgd⟩, if_pos ⟨hrm0.mpr ⟨x1, Or.inl x2⟩, Or.inl hgd⟩]
    exact ⟨rfl, fun a a0 a1 => hnm 0 (by omega) (by omega) (Or.inl ⟨rfl, x2⟩) a a0 a1⟩
  · rw [if_neg (fun z => c0 z.1)]
    rw [e1 1]
    by_cases c1 : rmb D col va (spl D col at_ r 1) w.toNat 0 = true
    · obtain ⟨x1, x2⟩ := (hrm 1 (by omega) (by omega)).mp c1
      have x3 : ¬ mF D (prt D (r.2.1 at_) 0) (va (col at_)) = true := fun y => c0 ((hrm 0 (by omega) (by omega)).mpr ⟨x1, y⟩)
      rw [if_pos ⟨c1, Or.inl hgd⟩, if_pos ⟨hrm0.mpr ⟨x1, Or.inr x2⟩, Or.inl hgd⟩]
      exact ⟨rfl, fun a a0 a1 => hnm 1 (by omega) (by omega) (Or.inr ⟨rfl, x3⟩) a a0 a1⟩
    · rw [if_neg (fun z => c1 z.1), if_neg (fun z => ?_)]
      · exact oEq_refl
      · obtain ⟨x1, x2⟩ := hrm0.mp z.1
        rcases x2 with x2 | x2
        · exact c0 ((hrm 0 (by omega) (by omega)).mpr ⟨x1, x2⟩)
        · exact c1 ((hrm 1 (by omega) (by omega)).mpr ⟨x1, x2⟩)
theorem out_nF (hw : wfP D) (ht : wfT D) (hb : wfB D) (he : wfE D) (hc : okCo D w col np E) : ∀ (n : Nat) (rows rows' : List aR), nF D w col n rows = some rows' → (∀ q ∈ rows, okT D w col E q ∧ rI D m w q) → oEq (out D m w col va rows') (out D m w col va rows) := by
  intro n
  induction n with
  | zero => intro rows rows' h; cases h
  | succ n ih =>
    intro rows rows' h ho
    cases rows with
    | nil => cases h; exact oEq_refl
    | cons r rs =>
      unfold nF at h
      obtain ⟨a, ha⟩ : ∃ a, a = fOp r.2.1 w.toNat 0 := ⟨_, rfl⟩
      rw [← ha] at h
      by_cases c : 0 ≤ a ∧ 0 ≤ r.2.1 a ∧ D 68 (r.2.1 a) = 4
      · rw [if_pos c] at h
        have haw : a < w := by
          rcases fOp_is (f := r.2.1) w.toNat 0 with ⟨z, -⟩ | ⟨-, z, -, -⟩ <;> omega
        by_cases c5 : rs.length = 23
        · rw [if_pos c5] at h; cases h
        · rw [if_neg c5] at h
          have hr := ho r (by simp)
          refine oEq_trans (ih _ _ h (fun q hq => ?_)) (out_spl hw ht hb he hc hr.1 ⟨c.1, haw⟩ c.2.1 c.2.2 hr.2)
          rcases List.mem_cons.mp hq with z | z
          · subst z; exact ⟨okT_spl hw c.1 haw hr.1 c.2.1 c.2.2 (by omega) (by omega), rI_spl hw hb he hc hr.1 ⟨c.1, haw⟩ c.2.1 c.2.2 (by omega) (by omega) hr.2⟩
          · rcases List.mem_cons.mp z with z | z
            · subst z; exact ⟨okT_spl hw c.1 haw hr.1 c.2.1 c.2.2 (by omega) (by omega), rI_spl hw hb he hc hr.1 ⟨c.1, haw⟩ c.2.1 c.2.2 (by omega) (by omega) hr.2⟩
            · exact ho q (List.mem_cons_of_mem _ z)
      · rw [if_neg c] at h
        have h := Option.some.inj h
        subst h
        exact oEq_refl
theorem out_nA (hw : wfP D) (ht : wfT D) (hb : wfB D) (he : wfE D) (hc : okCo D w col np E) (hat : 0 ≤ at_ ∧ at_ < w) : ∀ (n : Nat) (dn rows rows' : List aR), nA D col at_ n dn rows = some rows' → (∀ q ∈ rows, okT D w col E q ∧ rI D m w q) → oEq (out D m w col va rows') (out D m w col va (dn ++ rows)) := by
  intro n
  induction n with
  | zero => intro dn rows rows' h; cases h
  | succ n ih =>
    intro dn rows rows' h ho
    cases rows with
    | nil => cases h; rw [List.append_nil]; exact oEq_refl
    | cons r rs =>
      unfold nA at h
      by_cases c : 0 ≤ r.2.1 at_ ∧ D 68 (r.2.1 at_) = 4
      · rw [if_pos c] at h
        by_cases c5 : dn.length + rs.length = 23
        · rw [if_pos c5] at h; cases h
        · rw [if_neg c5] at h
          have hr := ho r (by simp)
          refine oEq_trans (ih _ _ _ h (fun q hq => ?_)) (out_app dn (out_spl hw ht hb he hc hr.1 hat c.1 c.2 hr.2))
          rcases List.mem_cons.mp hq with z | z
          · subst z; exact ⟨okT_spl hw hat.1 hat.2 hr.1 c.1 c.2 (by omega) (by omega), rI_spl hw hb he hc hr.1 hat c.1 c.2 (by omega) (by omega) hr.2⟩
          · rcases List.mem_cons.mp z with z | z
            · subst z; exact ⟨okT_spl hw hat.1 hat.2 hr.1 c.1 c.2 (by omega) (by omega), rI_spl hw hb he hc hr.1 hat c.1 c.2 (by omega) (by omega) hr.2⟩
            · exact ho q (List.mem_cons_of_mem _ z)
      · rw [if_neg c] at h
        have := ih (dn ++ [r]) rs rows' h (fun q hq => ho q (List.mem_cons_of_mem _ hq))
        simpa using this
theorem out_shp (hw : wfP D) (ht : wfT D) (hb : wfB D) (he : wfE D) (hc : okCo D w col np E) {rows rows' : List aR} (h : shp D w col rows = some (rows', at_)) (ho : ∀ q ∈ rows, okT D w col E q ∧ rI D m w q) (hl : rows.length ≤ 24) : oEq (out D m w col va rows') (out D m w col va rows) ∧ ∀ q ∈ rows', okT D w col E q ∧ rI D m w q := by
  have hok := (shp_ok (P := fun q => okT D w col E q ∧ rI D m w q) hc.1 (fun r a j h0 h1 h2 h3 h4 h5 h6 => ⟨okT_spl hw h0 h1 h2.1 h3 h4 h5 h6, rI_spl hw hb he hc h2.1 ⟨h0, h1⟩ h3 h4 h5 h6 h2.2⟩) h ho hl).1
  refine ⟨?_, hok⟩
  unfold shp at h
  cases hF : nF D w col 25 rows with
  | none => rw [hF] at h; cases h
  | some rs =>
    rw [hF] at h
    have o1 := out_nF (va := va) hw ht hb he hc 25 rows rs hF ho
    have ok1 := (nF_ok (P := fun q => okT D w col E q ∧ rI D m w q) hc.1 (fun r a j h0 h1 h2 h3 h4 h5 h6 => ⟨okT_spl hw h0 h1 h2.1 h3 h4 h5 h6, rI_spl hw hb he hc h2.1 ⟨h0, h1⟩ h3 h4 h5 h6 h2.2⟩) 25 rows rs hF ho hl).1
    cases rs with
    | nil =>
      have h := Option.some.inj h
      cases h
      exact o1
    | cons r rs =>
      have h : (if fOp r.2.1 w.toNat 0 < 0 then some (r :: rs, -1) else (nA D col (fOp r.2.1 w.toNat 0) 50 [] (r :: rs)).map (fun q => (q, fOp r.2.1 w.toNat 0))) = some (rows', at_) := h
      by_cases c : fOp r.2.1 w.toNat 0 < 0
      · rw [if_pos c] at h
        have h := Option.some.inj h
        cases h
        exact o1
      · rw [if_neg c] at h
        have ha : fOp r.2.1 w.toNat 0 < w := by
          rcases fOp_is (f := r.2.1) w.toNat 0 with ⟨a, -⟩ | ⟨a, b, -, -⟩ <;> omega
        cases hA : nA D col (fOp r.2.1 w.toNat 0) 50 [] (r :: rs) with
        | none => rw [hA] at h; cases h
        | some rs2 =>
          rw [hA] at h
          have h := Option.some.inj h
          cases h
          exact oEq_trans (out_nA hw ht hb he hc ⟨by omega, ha⟩ 50 [] (r :: rs) rows' hA ok1) o1
end SEM2
