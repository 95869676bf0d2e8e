/-! ===== the class: a row of EITHER becomes two ===== -/
section CSP2
variable {D E : xM} {e : yE} {d cs cl : Nat} {M : xM} {π col : Int → Int} {w np b at_ : Int}
/-- a row's open columns around one that is not ANY -/
theorem opn_at (hw0 : 0 ≤ at_ ∧ at_ < w) {cell : Int → Int} : opn π col cell w.toNat 0 = opn π col cell at_.toNat 0 ++ ((if cell at_ < 0 then [] else [(π (col at_), cell at_)]) ++ opn π col cell (w - 1 - at_).toNat (at_ + 1)) := by
  have e1 : w.toNat = at_.toNat + ((w - 1 - at_).toNat + 1) := by omega
  rw [e1, opn_app, show (0 : Int) + (at_.toNat : Int) = at_ by omega]
  rfl
theorem s_half {Q : Int → yE → xM → Prop} {s j : Int} {r : aR} (hw : wfP D) (hwb : wfB D) (hs : CSh e) (hP : hpP e M cs cl) (hC : pCl M D) (hpi : piO π np b) (hb : b ≤ 1000) (hc : okCo D w col np E) (hat : 0 ≤ at_ ∧ at_ < w) (ho : okT D w col E r) (hU : nmU D w r) (hE : 0 ≤ r.2.1 at_) (h4 : D 68 (r.2.1 at_) = 4) (j0 : 0 ≤ j) (j1 : j < 2) (hr : crw D M π w col s r) (h13 : M 29 13 = 1) (h43 : M 43 0 = prt D (r.2.1 at_) j) (hsz : M 34 0 < 499500) (hsz3 : M 30 0 < 8000)
    (h : ∀ e' M' cs' cl', stp e M cs cl e' M' cs' cl' → M' 30 0 = M 30 0 + 1 → M' 34 0 ≤ M 34 0 + 86 → crw D M' π w col (M 30 0) (spl D col at_ r j) → Q (M 30 0) e' M') : C_Bu_putParts e (d + 4) s (π (col at_)) (π (col at_)) M Q := by
  obtain ⟨h1, h2, h3, l, h4l, h5, h6⟩ := hr
  have hp := okT_P ho hat.1 hat.2 hE
  obtain ⟨p1, -, -⟩ := ((hw.2 _ hp).2.2.2.2.2.2.2.2 h4).1 j j0 j1
  have hwt := ((hw.2 _ hp).2.2.2.2.2.2.2.2 h4).2
  have hw0 := (hw.2 _ (((hw.2 _ hp).2.2.2.2.2.2.2.2 h4).1 0 (by omega) (by omega)).1).2.1
  have hw1 := (hw.2 _ (((hw.2 _ hp).2.2.2.2.2.2.2.2 h4).1 1 (by omega) (by omega)).1).2.1
  have hwj : D 72 (prt D (r.2.1 at_) j) < D 72 (r.2.1 at_) := by
    have : j = 0 ∨ j = 1 := by omega
    rcases this with z | z <;> (rw [z]; omega)
  have hlen := opn_len hw (okT_C ho) hc.1 h6
  have hca := (hc.2.2.1 at_ hat.1 hat.2).1
  have hpa := hpi.1 _ hca.1 hca.2
  have eo := opn_at (π := π) (col := col) (cell := r.2.1) hat
  rw [if_neg (show ¬ r.2.1 at_ < 0 by omega)] at eo
  obtain ⟨A, hA⟩ : ∃ A, A = opn π col r.2.1 at_.toNat 0 := ⟨_, rfl⟩
  obtain ⟨B, hB⟩ : ∃ B, B = opn π col r.2.1 (w - 1 - at_).toNat (at_ + 1) := ⟨_, rfl⟩
  rw [← hA, ← hB, List.singleton_append] at eo
  have ioP : ∀ x ∈ opn π col r.2.1 w.toNat 0, isP D x.2 := by
    intro x hx
    obtain ⟨i, hi, hi2, rfl⟩ := opn_mem _ _ hx
    exact okT_P ho (by omega) (by have := hc.1; omega) hi2
  have rgo := opn_rg (cell := r.2.1) hpi hb hc
  rw [eo] at h3 h6 hlen ioP rgo
  rw [List.length_append, List.length_cons] at hlen
  have hn := fun (a : Int) (a0 : 0 ≤ a) (a1 : a < 16) => lF_nm1 hw hwb p1 a0 a1
  refine s_putParts (D := D) (A := A) (X := (π (col at_), r.2.1 at_) :: B) (l := l) (n := 1) (f := fun _ => prt D (r.2.1 at_) j) hw hs hP hC h1 ?_ (Or.inr ⟨_, _, rfl⟩) (by omega) rgo ⟨by omega, by omega⟩ h3 h4l (by decide) h13 (fun i _ _ => p1) (fun i i0 i1 => (show i = 0 by omega) ▸ h43) hsz hsz3 ?_
  · intro x hx
    rw [hA] at hx
    obtain ⟨i, hi, -, rfl⟩ := opn_mem _ _ hx
    exact pi_ne hpi hc (by omega) (by omega) hat.1 hat.2 (by omega)
  · intro e' M' cs' cl' g1 g2 g3 g4 g5 g6
    have eP : pEr D (π (col at_)) (fun _ => prt D (r.2.1 at_) j) 1 0 = (if lF D (prt D (r.2.1 at_) j) < 0 then [] else [(π (col at_), lF D (prt D (r.2.1 at_) j))]) := by
      show (if lF D (prt D (r.2.1 at_) j) < 0 then [] else [(π (col at_) + 0, lF D (prt D (r.2.1 at_) j))]) ++ [] = _
      rw [List.append_nil, Int.add_zero]
    have eN : nEr D (π (col at_)) (fun _ => prt D (r.2.1 at_) j) 1 0 = (tlF D (prt D (r.2.1 at_) j)).reverse.map (fun a => (π (col at_), a)) := by
      show (tlF D (prt D (r.2.1 at_) j)).reverse.map (fun a => (π (col at_) + 0, a)) ++ [] = _
      rw [List.append_nil, Int.add_zero]
    have cellk : ∀ k, k ≠ at_ → (spl D col at_ r j).2.1 k = r.2.1 k := by intro k hk; show uf _ _ _ k = _; unfold uf; rw [if_neg hk]
    have cella : (spl D col at_ r j).2.1 at_ = lF D (prt D (r.2.1 at_) j) := by show uf _ _ _ at_ = _; unfold uf; rw [if_pos rfl]
    have eo2 : opn π col (spl D col at_ r j).2.1 w.toNat 0 = A ++ (pEr D (π (col at_)) (fun _ => prt D (r.2.1 at_) j) 1 0 ++ B) := by
      rw [opn_at hat, cella, eP, hA, hB]
      congr 1
      · exact opn_cg _ _ _ (fun i hi => ⟨cellk _ (by omega), fun _ => rfl⟩)
      · congr 1
        exact opn_cg _ _ _ (fun i hi => ⟨cellk _ (by omega), fun _ => rfl⟩)
    have hK : nmK π (spl D col at_ r j).2.2 (nEr D (π (col at_)) (fun _ => prt D (r.2.1 at_) j) 1 0 ++ l) := by
      rw [eN]
      refine nmK_strip hw hwb p1 hca.1 h5 (fun a a0 a1 ht => ?_)
      have hb4 : nmb D (r.2.1 at_) a ↔ nmb D (prt D (r.2.1 at_) j) a := by
        have b4 := (hwb _ hp a a0 a1).2.2.2.2 h4
        by_cases z : j = 0
        · rw [z]; exact b4.1
        · have : j = 1 := by omega
          rw [this]; exact b4.2
      exact (hU a a0 a1).1 at_ hat.1 hat.2 hE (hb4.mpr ((hn a a0 a1).1.mpr (Or.inl ht)))
    have hwt2 := lF_wt hw 40 _ p1 (hw.2 _ p1).2.1.2
    have hpot : pL D (A ++ (pEr D (π (col at_)) (fun _ => prt D (r.2.1 at_) j) 1 0 ++ B)) + 2 * ((nEr D (π (col at_)) (fun _ => prt D (r.2.1 at_) j) 1 0 ++ l).length : Int) ≤ 243 := by
      rw [pL_app, pL_app, List.length_append, eN, List.length_map, List.length_reverse, eP]
      rw [pL_app] at h6
      have h6 : pL D A + ((2 * D 72 (r.2.1 at_) + 1) + pL D B) + 2 * (l.length : Int) ≤ 243 := h6
      by_cases z : lF D (prt D (r.2.1 at_) j) < 0
      · rw [if_pos z] at hwt2 ⊢
        show pL D A + (0 + pL D B) + _ ≤ _
        omega
      · rw [if_neg z] at hwt2 ⊢
        show pL D A + (((2 * D 72 (lF D (prt D (r.2.1 at_) j)) + 1) + 0) + pL D B) + _ ≤ _
        omega
    have hsz2 := put_sz hw (nmK_len hK) hpot (fun x hx => by
      rcases List.mem_append.mp hx with z | z
      · exact ioP x (List.mem_append_left _ z)
      · rcases List.mem_append.mp z with z | z
        · rw [eP] at z
          split at z
          · cases z
          · rename_i hz
            rw [List.mem_singleton] at z
            subst z
            rcases lF_rg hw (Or.inl p1) with y | y
            · exact absurd (show lF D (prt D (r.2.1 at_) j) < 0 by omega) hz
            · exact y.1
        · exact ioP x (List.mem_append_right _ (List.mem_cons_of_mem _ z)))
    have h30 := (hp_rg hP.1).2.1
    refine h e' M' cs' cl' g1 g2 (by rw [g3]; omega) ⟨⟨h30.1, by omega⟩, by rw [g4]; exact h2, ?_, nEr D (π (col at_)) (fun _ => prt D (r.2.1 at_) j) 1 0 ++ l, g6, hK, ?_⟩
    · rw [eo2]; exact g5
    · rw [eo2]; exact hpot
theorem s_splitC {Q : yE → xM → Prop} {pre post : List aR} {r : aR} (hw : wfP D) (hwb : wfB D) (hs : CSh e) (hP : hpP e M cs cl) (hC : pCl M D) (hpi : piO π np b) (hb : b ≤ 1000) (hc : okCo D w col np E) (hat : 0 ≤ at_ ∧ at_ < w) (ho : okT D w col E r) (hU : nmU D w r) (hE : 0 ≤ r.2.1 at_) (h4 : D 68 (r.2.1 at_) = 4) (hR : cR D M π w col (pre ++ r :: post)) (hl : (pre ++ r :: post).length < 24) (hsz : M 34 0 < 499300) (hsz3 : M 30 0 < 7990)
    (h : ∀ e' M' cs' cl', std e M cs cl e' M' cs' cl' → M' 30 0 = M 30 0 + 2 → cR D M' π w col (pre ++ spl D col at_ r 0 :: spl D col at_ r 1 :: post) → Q e' M') : C_Bu_split e (d + 5) pre.length (π (col at_)) M Q := by
  obtain ⟨n, hn⟩ : ∃ n : Nat, n = (pre ++ r :: post).length := ⟨_, rfl⟩
  obtain ⟨h9, hrow⟩ := hR
  rw [← hn] at hl h9
  have hpl : pre.length < n := by rw [hn, List.length_append, List.length_cons]; omega
  have hgr : (pre ++ r :: post)[pre.length]? = some r := by rw [List.getElem?_append_right (Nat.le_refl _), Nat.sub_self]; rfl
  have hcr := hrow _ r hgr
  have hp := okT_P ho hat.1 hat.2 hE
  have h300 := hw.1
  have hp1 := hp.2
  have hpr := fun j j0 j1 => ((hC _ hp).2.2.2.2.2 h4).2 j j0 j1
  refine c_Bu_split (c_Bu_split_0 hs ⟨⟨by omega, by omega⟩, fun _ => ⟨by omega, s_patAt hw hs hP (by omega) hpi hb hc hat (okT_C ho) hcr ?_⟩, fun z => absurd (by omega) z⟩)
  obtain ⟨st, hst⟩ : ∃ st, st = M 41 pre.length := ⟨_, rfl⟩
  rw [← hst] at hcr ⊢
  rw [h9]
  -- the rows move up
  refine for_dn (fun k M' => C_Bu_split_39 e (d + 4) pre.length (π (col at_)) st (r.2.1 at_) k M' Q) (fun k M' => ∃ kk : Nat, k = kk ∧ pre.length ≤ kk ∧ kk ≤ n ∧ std e M cs cl e M' cs cl ∧ M' 30 = M 30 ∧ M' 34 = M 34 ∧ (∀ j x, (j = 1 ∨ j = 2 ∨ j = 3) → vL M' j x = vL M j x ∧ vS M' j x = vS M j x) ∧ M' 29 = M 29 ∧ M' 43 = M 43 ∧ (∀ i : Nat, i ≤ kk → i < n → M' 41 i = M 41 i) ∧ (∀ i : Nat, kk ≤ i → i < n → M' 41 ((i + 1 : Nat) : Int) = M 41 i)) pre.length ?_ ?_ n M (by omega) ⟨n, rfl, by omega, Nat.le_refl _, std_refl hP, rfl, rfl, fun _ _ _ => ⟨rfl, rfl⟩, rfl, rfl, fun _ _ _ => rfl, fun i h1 h2 => by omega⟩
  · rintro k M' ⟨kk, rfl, k1, k2, s1, h30, h34, hv, h29, h43, ha, hb2⟩ hlt hgo
    obtain ⟨k0, rfl⟩ : ∃ k0, kk = k0 + 1 := ⟨kk - 1, by omega⟩
    refine c_Bu_split_39 hs ⟨⟨⟨by omega, by omega⟩, ⟨by omega, by omega⟩⟩, fun z => absurd z (by omega), fun _ => ⟨by omega, by omega, fun M1 e1 => ?_⟩⟩
    obtain ⟨u1, u2, u3, u4⟩ := std_up (k := 41) (i := ((k0 + 1 : Nat) : Int)) (v := M' 41 (((k0 + 1 : Nat) : Int) - 1)) hs s1.1 (Or.inr (Or.inl rfl))
    rw [← e1] at u1 u2 u3 u4
    rw [show ((k0 + 1 : Nat) : Int) + (-1 : Int) = ((k0 + 1 : Nat) : Int) - 1 by omega]
    refine hgo M1 ⟨k0, by omega, by omega, by omega, std_trans s1 u1, u3.trans h30, u4.trans h34, fun j x hj => ⟨(u2 j x hj).1.trans (hv j x hj).1, (u2 j x hj).2.trans (hv j x hj).2⟩, by rw [e1, xrd (by decide)]; exact h29, by rw [e1, xrd (by decide)]; exact h43, fun i hi hi2 => ?_, fun i hi hi2 => ?_⟩
    · rw [e1, xri (by omega)]; exact ha i (by omega) hi2
    · by_cases z : i = k0
      · subst z
        rw [e1, xrs, show (((i + 1 : Nat) : Int) - 1) = (i : Int) by omega]
        exact ha i (by omega) hi2
      · rw [e1, xri (by omega)]; exact hb2 i (by omega) hi2
  · rintro M' ⟨kk, hk, k1, k2, s1, h30, h34, hv, h29, h43, ha, hb2⟩
    have hkk : kk = pre.length := by omega
    subst hkk
    refine c_Bu_split_39 hs ⟨⟨⟨by omega, by omega⟩, ⟨by omega, by omega⟩⟩, fun _ M1 e1 M2 e2 => ?_, fun z => absurd (by omega) z⟩
    obtain ⟨u1, u2, u3, u4⟩ := std_up (k := 29) (i := 9) (v := M' 29 9 + 1) hs s1.1 (Or.inl ⟨rfl, by omega⟩)
    rw [← e1] at u1 u2 u3 u4
    obtain ⟨v1, v2, v3, v4⟩ := std_up (k := 29) (i := 13) (v := 1) hs u1.1 (Or.inl ⟨rfl, by omega⟩)
    rw [← e2] at v1 v2 v3 v4
    have s2 := std_trans s1 (std_trans u1 v1)
    have hC2 := pCl_fD hs hC s2.2.2.2.1
    have pr2 := fun j j0 j1 => ((hC2 _ hp).2.2.2.2.2 h4).2 j j0 j1
    refine s_partOf (c5_18 hs) (by omega) hs (fun M5 e5 => ?_)
    have e24 := pr2 0 (by omega) (by omega)
    rw [show (18 + 6 : Nat) = 24 from rfl, e24] at e5
    obtain ⟨w1, w2, w3, w4⟩ := std_up (k := 43) (i := 0) (v := prt D (r.2.1 at_) 0) hs v1.1 (Or.inr (Or.inr (Or.inl rfl)))
    rw [← e5] at w1 w2 w3 w4
    have s5 := std_trans s2 w1
    have f29_9 : M5 29 9 = n + 1 := by rw [e5, xrd (by decide), e2, xri (by decide), e1, xrs, h29, h9]
    have f41 : M5 41 = M' 41 := by rw [e5, xrd (by decide), e2, xrd (by decide), e1, xrd (by decide)]
    have f30 : M5 30 = M 30 := w3.trans (v3.trans (u3.trans h30))
    have f34 : M5 34 = M 34 := w4.trans (v4.trans (u4.trans h34))
    refine s_half (D := D) (j := 0) hw hwb hs s5.1 (pCl_fD hs hC s5.2.2.2.1) hpi hb hc hat ho hU hE h4 (by omega) (by omega) (crw_gr s5.2.2.2.2.1 hcr) (by rw [e5, xrd (by decide), e2, xrs]) (by rw [e5, xrs]) (by rw [f34]; omega) (by rw [f30]; omega) ?_
    intro e6 M6 cs6 cl6 g1 g2 g3 g4
    have hs6 := hs.le g1.2.1
    have t6 : std e M5 cs cl e6 M6 cs6 cl6 := stp_std g1 (by rw [g2]; omega)
    refine ⟨g1.2.1, by omega, fun M9 e9 => ?_⟩
    obtain ⟨x1, x2, x3, x4⟩ := std_up (k := 41) (i := (pre.length : Int)) (v := M5 30 0) hs6 g1.1 (Or.inr (Or.inl rfl))
    rw [← e9] at x1 x2 x3 x4
    have s9 := std_trans s5 (std_trans t6 x1)
    have hC9 := pCl_fD hs hC s9.2.2.2.1
    have pr9 := ((hC9 _ hp).2.2.2.2.2 h4).2 1 (by omega) (by omega)
    refine s_partOf (c5_18 hs6) (by omega) hs6 (fun M12 e12 => ?_)
    rw [show (18 + 6 : Nat) = 24 from rfl, pr9] at e12
    obtain ⟨y1, y2, y3, y4⟩ := std_up (k := 43) (i := 0) (v := prt D (r.2.1 at_) 1) hs6 x1.1 (Or.inr (Or.inr (Or.inl rfl)))
    rw [← e12] at y1 y2 y3 y4
    have s12 := std_trans s9 y1
    have k30 : M12 30 0 = M 30 0 + 1 := by rw [y3, x3, g2, f30]
    have k34 : M12 34 0 ≤ M 34 0 + 86 := by rw [y4, x4]; rw [f34] at g3; exact g3
    refine s_half (D := D) (j := 1) hw hwb hs6 s12.1 (pCl_fD hs hC s12.2.2.2.1) hpi hb hc hat ho hU hE h4 (by omega) (by omega) (crw_gr s12.2.2.2.2.1 hcr) ?_ (by rw [e12, xrs]) (by omega) (by omega) ?_
    · rw [e12, xrd (by decide), e9, xrd (by decide), g1.2.2.2.1.2 13 (by decide), e5, xrd (by decide), e2, xrs]
    · intro e13 M13 cs13 cl13 q1 q2 q3 q4
      have hs13 := hs6.le q1.2.1
      have t13 : std e6 M12 cs6 cl6 e13 M13 cs13 cl13 := stp_std q1 (by rw [q2]; omega)
      refine ⟨q1.2.1, by omega, fun M16 e16 => ?_⟩
      obtain ⟨z1, z2, z3, z4⟩ := std_up (k := 41) (i := (pre.length : Int) + 1) (v := M12 30 0) hs13 q1.1 (Or.inr (Or.inl rfl))
      rw [← e16] at z1 z2 z3 z4
      have s16 := std_trans s12 (std_trans t13 z1)
      refine h e13 M16 cs13 cl13 s16 (by rw [z3, q2, k30]; omega) ⟨?_, fun i q hq => ?_⟩
      · rw [e16, xrd (by decide), q1.2.2.2.1.2 9 (by decide), e12, xrd (by decide), e9, xrd (by decide), g1.2.2.2.1.2 9 (by decide), f29_9]
        rw [List.length_append, List.length_cons, List.length_cons]
        rw [List.length_append, List.length_cons] at hn
        omega
      · have g41 : M6 41 = M5 41 := frP_c hs g1.2.2.2.1 (by decide) (by decide) (nC_41 hs)
        have q41 : M13 41 = M12 41 := frP_c hs6 q1.2.2.2.1 (by decide) (by decide) (nC_41 hs6)
        have old : ∀ x : Int, x ≠ pre.length → x ≠ (pre.length : Int) + 1 → M16 41 x = M' 41 x := by
          intro x hx hx2
          rw [e16, xri hx2, q41, e12, xrd (by decide), e9, xri hx, g41, f41]
        rcases sp_get (r := r) hq with ⟨j1, j2⟩ | ⟨j1, j2⟩ | ⟨j1, j2⟩ | ⟨j1, j2⟩
        · rw [old i (by omega) (by omega), ha i (by omega) (by omega)]
          exact crw_gr s16.2.2.2.2.1 (hrow i q j2)
        · subst j1; subst j2
          have : M16 41 (pre.length : Int) = M5 30 0 := by rw [e16, xri (by omega), q41, e12, xrd (by decide), e9, xrs]
          rw [this]
          exact crw_gr (grL_trans x1.2.2.2.2.1 (grL_trans y1.2.2.2.2.1 (grL_trans q1.2.2.2.2 z1.2.2.2.2.1))) g4
        · subst j1; subst j2
          have : M16 41 ((pre.length + 1 : Nat) : Int) = M12 30 0 := by rw [e16, show ((pre.length + 1 : Nat) : Int) = (pre.length : Int) + 1 by omega, xrs]
          rw [this]
          exact crw_gr z1.2.2.2.2.1 q4
        · have hjn : j1 = j1 := rfl
          have hin : i - 1 < n := by
            rcases Nat.lt_or_ge (i - 1) n with z | z
            · exact z
            · rw [List.getElem?_eq_none (by omega)] at j2; cases j2
          rw [old i (by omega) (by omega)]
          have := hb2 (i - 1) (by omega) hin
          rw [show ((i - 1 + 1 : Nat) : Int) = (i : Int) by omega] at this
          rw [this]
          exact crw_gr s16.2.2.2.2.1 (hrow (i - 1) q j2)
end CSP2
