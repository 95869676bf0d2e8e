/-! ===== the class: a row behind a test ===== -/
section CR3
variable {D E : xM} {e : yE} {d cs cl : Nat} {M : xM} {π col : Int → Int} {w np b at_ m key fp s : Int}
/-- the open columns behind a test -/
theorem opn_br {f : Int → Int} {r : aR} (hat : 0 ≤ at_ ∧ at_ < w) (hc : okCo D w col np E) (hm : 0 ≤ m ∧ m ≤ 3) (hf : ∀ j, 0 ≤ j → j < m → lF D (bPt D (r.2.1 at_) j) = lF D (f j)) : opn (piN π np fp) (bCol col np at_ m) (bCl D at_ m r.2.1) (w - 1 + m).toNat 0 = opn π col r.2.1 at_.toNat 0 ++ (pEr D fp f m.toNat 0 ++ opn π col r.2.1 (w - 1 - at_).toNat (at_ + 1)) := by
  have hpic : ∀ k, 0 ≤ k → k < w → piN π np fp (col k) = π (col k) := by
    intro k k0 k1
    have := (hc.2.2.1 k k0 k1).1
    unfold piN; rw [if_pos this.2]
  have e1 : (w - 1 + m).toNat = at_.toNat + (m.toNat + (w - 1 - at_).toNat) := by omega
  rw [e1, opn_app, opn_app, show (0 : Int) + (at_.toNat : Int) = at_ by omega]
  congr 1
  · refine opn_cg _ _ _ (fun j hj => ?_)
    have e2 : bCl D at_ m r.2.1 (0 + (j : Int)) = r.2.1 (0 + (j : Int)) := by unfold bCl; rw [if_pos (by omega)]
    have e3 : bCol col np at_ m (0 + (j : Int)) = col (0 + (j : Int)) := by unfold bCol; rw [if_pos (by omega)]
    rw [e2, e3]
    exact ⟨rfl, fun _ => hpic _ (by omega) (by omega)⟩
  · congr 1
    · refine opn_pEr _ _ _ (fun i hi => ?_)
      have e2 : bCl D at_ m r.2.1 (at_ + (i : Int)) = lF D (bPt D (r.2.1 at_) i) := by unfold bCl; rw [if_neg (by omega), if_pos (by omega), show at_ + (i : Int) - at_ = i by omega]
      have e3 : bCol col np at_ m (at_ + (i : Int)) = np + i := by unfold bCol; rw [if_neg (by omega), if_pos (by omega), show at_ + (i : Int) - at_ = i by omega]
      rw [e2, e3, hf i (by omega) (by omega), Int.zero_add]
      refine ⟨rfl, ?_⟩
      unfold piN; rw [if_neg (by omega)]; omega
    · refine opn_cg _ _ _ (fun j hj => ?_)
      have e2 : bCl D at_ m r.2.1 (at_ + (m.toNat : Int) + (j : Int)) = r.2.1 (at_ + 1 + (j : Int)) := by unfold bCl; rw [if_neg (by omega), if_neg (by omega), show at_ + (m.toNat : Int) + (j : Int) - m + 1 = at_ + 1 + (j : Int) by omega]
      have e3 : bCol col np at_ m (at_ + (m.toNat : Int) + (j : Int)) = col (at_ + 1 + (j : Int)) := by unfold bCol; rw [if_neg (by omega), if_neg (by omega), show at_ + (m.toNat : Int) + (j : Int) - m + 1 = at_ + 1 + (j : Int) by omega]
      rw [e2, e3]
      exact ⟨rfl, fun _ => hpic _ (by omega) (by omega)⟩
theorem pEr_neg {f : Int → Int} {x : Int} : ∀ (k : Nat) (j : Int), (∀ i, j ≤ i → i < j + k → lF D (f i) < 0) → pEr D x f k j = [] := by
  intro k
  induction k with
  | zero => intro j _; rfl
  | succ k ih =>
    intro j h
    unfold pEr
    rw [if_pos (h j (by omega) (by omega)), ih (j + 1) (fun i i0 i1 => h i (by omega) (by omega))]
    rfl
/-- a row with ANY there goes on as it is -/
theorem crw_any {r : aR} (hat : 0 ≤ at_ ∧ at_ < w) (hc : okCo D w col np E) (hm : 0 ≤ m ∧ m ≤ 3) (ho : okR D w col np E r) (hneg : r.2.1 at_ < 0) (h : crw D M π w col s r) : crw D M (piN π np fp) (w - 1 + m) (bCol col np at_ m) s (bRw D np at_ m r) := by
  obtain ⟨h1, h2, h3, l, h4, h5, h6⟩ := h
  have hb : ∀ j, bPt D (r.2.1 at_) j = -1 := fun j => by unfold bPt; rw [if_pos hneg]
  have eo : opn (piN π np fp) (bCol col np at_ m) (bRw D np at_ m r).2.1 (w - 1 + m).toNat 0 = opn π col r.2.1 w.toNat 0 := by
    show opn (piN π np fp) (bCol col np at_ m) (bCl D at_ m r.2.1) (w - 1 + m).toNat 0 = _
    rw [opn_br (f := fun _ => -1) hat hc hm (fun j _ _ => by rw [hb]), pEr_neg _ _ (fun i _ _ => by rw [lF_neg (by omega)]; omega), opn_at hat, if_pos hneg]
  have en : ∀ a, (bRw D np at_ m r).2.2 a = r.2.2 a := by
    intro a
    show bNm D (r.2.1 at_) np r.2.2 m.toNat a = _
    exact bNm_no _ (fun j _ _ => by rw [hb, tF_neg (by omega)]; decide)
  refine ⟨h1, h2, by rw [eo]; exact h3, l, h4, ?_, by rw [eo]; exact h6⟩
  refine nmK_cg (nam := r.2.2) (nmK_pi h5 (fun a a0 a1 ha => ?_)) (fun a _ _ => en a)
  rcases ho.2.2 a a0 a1 with z | z
  · omega
  · unfold piN; rw [if_pos z.2]
theorem s_rowput {Q : Int → yE → xM → Prop} {r : aR} (hw : wfP D) (hwt : wfT D) (hwb : wfB D) (hs : CSh e) (hP : hpP e M cs cl) (hC : pCl M D) (hpi : piO π np b) (hb : b ≤ 1000) (hc : okCo D w col np E) (hat : 0 ≤ at_ ∧ at_ < w) (ho : okR D w col np E r) (hne : ¬ (0 ≤ r.2.1 at_ ∧ D 68 (r.2.1 at_) = 4)) (hU : nmU D w r) (hE : 0 ≤ r.2.1 at_) (hkey : D 70 (r.2.1 at_) = key) (hm : m = bMn D (E 88 (col at_)) key false) (hmr : 0 ≤ m ∧ m ≤ 3) (hr : crw D M π w col s r) (h13 : M 29 13 = m) (h43 : ∀ i, 0 ≤ i → i < m → M 43 i = prt D (r.2.1 at_) i) (hsz : M 34 0 < 499500) (hsz3 : M 30 0 < 8000)
    (h : ∀ e' M' cs' cl', stp e M cs cl e' M' cs' cl' → M' 30 0 = M 30 0 + 1 → M' 34 0 ≤ M 34 0 + 86 → crw D M' (piN π np fp) (w - 1 + m) (bCol col np at_ m) (M 30 0) (bRw D np at_ m r) → Q (M 30 0) e' M') : C_Bu_putParts e (d + 4) s (π (col at_)) fp M Q := by
  obtain ⟨h1, h2, h3, l, h4l, h5, h6⟩ := hr
  have hoT := ho.1
  have hp := okT_P hoT hat.1 hat.2 hE
  have hin : r.2.1 at_ < 0 ∨ (false = false ∧ D 70 (r.2.1 at_) = key) := Or.inr ⟨rfl, hkey⟩
  have hcase := bIn_pt hw hat hoT hne hin hm
  have hpar : ∀ j, 0 ≤ j → j < m → D 68 (r.2.1 at_) = 2 ∧ m = pct D (r.2.1 at_) ∧ isP D (prt D (r.2.1 at_) j) ∧ bPt D (r.2.1 at_) j = prt D (r.2.1 at_) j := by
    intro j j0 j1
    rcases hcase with ⟨z, -⟩ | ⟨-, -, -, z⟩ | ⟨-, -, k2, hmm, hpt⟩
    · omega
    · omega
    · exact ⟨k2, hmm, (((hw.2 _ hp).2.2.2.2.2.2.1 k2).2.2.1 j j0 (by omega)).1, hpt j⟩
  have hlen := opn_len hw (okT_C hoT) hc.1 h6
  have hca := (hc.2.2.1 at_ hat.1 hat.2).1
  have hpa := hpi.1 _ hca.1 hca.2
  have eo := opn_at (π := π) (col := col) (cell := r.2.1) hat
  rw [if_neg (show ¬ r.2.1 at_ < 0 by omega)] at eo
  have eo2 := opn_br (D := D) (π := π) (fp := fp) (f := prt D (r.2.1 at_)) (r := r) hat hc hmr (fun j j0 j1 => by rw [(hpar j j0 j1).2.2.2])
  obtain ⟨A, hA⟩ : ∃ A, A = opn π col r.2.1 at_.toNat 0 := ⟨_, rfl⟩
  obtain ⟨B, hB⟩ : ∃ B, B = opn π col r.2.1 (w - 1 - at_).toNat (at_ + 1) := ⟨_, rfl⟩
  rw [← hA, ← hB, List.singleton_append] at eo
  rw [← hA, ← hB] at eo2
  have ioP : ∀ x ∈ opn π col r.2.1 w.toNat 0, isP D x.2 := by
    intro x hx
    obtain ⟨i, hi, hi2, rfl⟩ := opn_mem _ _ hx
    exact okT_P hoT (by omega) (by have := hc.1; omega) hi2
  have rgo := opn_rg (cell := r.2.1) hpi hb hc
  rw [eo] at h3 h6 hlen ioP rgo
  rw [List.length_append, List.length_cons] at hlen
  refine s_putParts (D := D) (A := A) (X := (π (col at_), r.2.1 at_) :: B) (l := l) (n := m.toNat) (f := prt D (r.2.1 at_)) hw hs hP hC h1 ?_ (Or.inr ⟨_, _, rfl⟩) (by omega) rgo ⟨by omega, by omega⟩ h3 h4l (by omega) (by omega) (fun i i0 i1 => (hpar i i0 (by omega)).2.2.1) (fun i i0 i1 => h43 i i0 (by omega)) hsz hsz3 ?_
  · intro x hx
    rw [hA] at hx
    obtain ⟨i, hi, -, rfl⟩ := opn_mem _ _ hx
    exact pi_ne hpi hc (by omega) (by omega) hat.1 hat.2 (by omega)
  · intro e' M' cs' cl' g1 g2 g3 g4 g5 g6
    have hK0 : nmK (piN π np fp) r.2.2 l := nmK_pi h5 (fun a a0 a1 ha => by
      rcases ho.2.2 a a0 a1 with z | z
      · omega
      · unfold piN; rw [if_pos z.2])
    have hdis : ∀ i a, 0 ≤ i → i < m → 0 ≤ a → a < 16 → tF D (prt D (r.2.1 at_) i) a = true → r.2.2 a < 0 ∧ ∀ i', 0 ≤ i' → i' < m → i' ≠ i → ¬ tF D (prt D (r.2.1 at_) i') a = true := by
      intro i a i0 i1 a0 a1 hti
      obtain ⟨k2, hmm, pi, -⟩ := hpar i i0 i1
      have ni := (lF_nm1 hw hwb pi a0 a1).1.mpr (Or.inl hti)
      have np2 := ((hwb _ hp a a0 a1).2.2.1 k2).1.mpr ⟨i, i0, by omega, ni⟩
      refine ⟨(hU a a0 a1).1 at_ hat.1 hat.2 hE np2, fun i' i0' i1' hne2 hti' => ?_⟩
      obtain ⟨-, -, pi', -⟩ := hpar i' i0' i1'
      have ni' := (lF_nm1 hw hwb pi' a0 a1).1.mpr (Or.inl hti')
      have hu := ((hwb _ hp a a0 a1).2.2.1 k2).2
      by_cases z : i' < i
      · exact hu i' i i0' z (by omega) ⟨ni', ni⟩
      · exact hu i i' i0 (by omega) (by omega) ⟨ni, ni'⟩
    have hK1 := nmK_parts (D := D) (np := np) (π := piN π np fp) (f := prt D (r.2.1 at_)) (nam := r.2.2) (l := l) (x := fp) (n := m) hw hwb hc.2.1 hK0 (fun i i0 i1 => (hpar i i0 i1).2.2.1) (fun i i0 i1 => by unfold piN; rw [if_neg (by omega)]; omega) hdis m.toNat 0 (by omega) (by omega)
    have hK : nmK (piN π np fp) (bRw D np at_ m r).2.2 (nEr D fp (prt D (r.2.1 at_)) m.toNat 0 ++ l) := by
      refine nmK_cg hK1 (fun a a0 a1 => ?_)
      show bNm D (r.2.1 at_) np r.2.2 m.toNat a = _
      by_cases z : ∃ i, (0 ≤ i ∧ i < m) ∧ tF D (prt D (r.2.1 at_) i) a = true
      · obtain ⟨i, hi, hti⟩ := z
        have hun := (hdis i a hi.1 hi.2 a0 a1 hti).2
        rw [bNm_at (j := i) m.toNat hi.1 (by omega) (by rw [(hpar i hi.1 hi.2).2.2.2]; exact hti) (fun i' a b c => by rw [(hpar i' a (by omega)).2.2.2]; exact hun i' a (by omega) c)]
        rw [nmP_at (i := i) m.toNat 0 hi.1 (by omega) hti (fun i' a b c => hun i' a (by omega) c)]
      · rw [bNm_no _ (fun i i0 i1 y => z ⟨i, ⟨i0, by omega⟩, by rw [(hpar i i0 (by omega)).2.2.2] at y; exact y⟩), nmP_no _ _ (fun i i0 i1 y => z ⟨i, ⟨i0, by omega⟩, y⟩)]
    have hwt2 := pe_wt (D := D) (x := fp) (f := prt D (r.2.1 at_)) (n := m) hw (fun i i0 i1 => (hpar i i0 i1).2.2.1) m.toNat 0 (by omega) (by omega)
    have hsw : swt D (prt D (r.2.1 at_)) m.toNat 0 ≤ 2 * D 72 (r.2.1 at_) + 1 := by
      by_cases z : m = 0
      · rw [z]; show (0 : Int) ≤ _; have := (hw.2 _ hp).2.1; omega
      · obtain ⟨k2, hmm, -, -⟩ := hpar 0 (by omega) (by omega)
        rw [hmm]; exact swt_2 hw hwt hp k2
    have hpot : pL D (A ++ (pEr D fp (prt D (r.2.1 at_)) m.toNat 0 ++ B)) + 2 * ((nEr D fp (prt D (r.2.1 at_)) m.toNat 0 ++ l).length : Int) ≤ 243 := by
      rw [pL_app, pL_app, List.length_append]
      rw [pL_app] at h6
      have h6 : pL D A + ((2 * D 72 (r.2.1 at_) + 1) + pL D B) + 2 * (l.length : Int) ≤ 243 := h6
      omega
    have hsz2 := put_sz hw (nmK_len hK) hpot (fun x hx => by
      rcases List.mem_append.mp hx with z | z
      · exact ioP x (List.mem_append_left _ z)
      · rcases List.mem_append.mp z with z | z
        · have : ∀ (k : Nat) (j : Int), 0 ≤ j → j + k ≤ m → x ∈ pEr D fp (prt D (r.2.1 at_)) k j → isP D x.2 := by
            intro k
            induction k with
            | zero => intro j _ _ y; cases y
            | succ k ih =>
              intro j j0 j1 y
              unfold pEr at y
              rcases List.mem_append.mp y with y | y
              · split at y
                · cases y
                · rename_i hz
                  rw [List.mem_singleton] at y
                  subst y
                  rcases lF_rg hw (Or.inl (hpar j j0 (by omega)).2.2.1) with q | q
                  · exact absurd (show lF D (prt D (r.2.1 at_) j) < 0 by omega) hz
                  · exact q.1
              · exact ih (j + 1) (by omega) (by omega) y
          exact this m.toNat 0 (by omega) (by omega) z
        · exact ioP x (List.mem_append_right _ (List.mem_cons_of_mem _ z)))
    have h30 := (hp_rg hP.1).2.1
    refine h e' M' cs' cl' g1 g2 (by rw [g3]; omega) ⟨⟨h30.1, by omega⟩, by rw [g4]; exact h2, ?_, nEr D fp (prt D (r.2.1 at_)) m.toNat 0 ++ l, g6, hK, ?_⟩
    · show chL M' (opn (piN π np fp) (bCol col np at_ m) (bCl D at_ m r.2.1) (w - 1 + m).toNat 0) _
      rw [eo2]; exact g5
    · show pL D (opn (piN π np fp) (bCol col np at_ m) (bCl D at_ m r.2.1) (w - 1 + m).toNat 0) + _ ≤ _
      rw [eo2]; exact hpot
end CR3
