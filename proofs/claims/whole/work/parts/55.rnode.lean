/-! ===== the reference goes through a node ===== -/
def NodeOK (e : yE) (D : xM) (n : Nat) : Prop := ∀ (d : Nat) (s cb lst lh w : Int) (col : Int → Int) (np : Int) (E : xM) (rows : List aR) (σ M : xM) (Q : xM → Prop),
  3 * n + 430 ≤ d → stt D M → ndR M s w cb rows → (∀ k, 0 ≤ k → k < w → M 87 (lst + k) = col k) → M 59 42 = np → M 59 35 = lh → plc M np E → bnd (120 - n) s w cb lst lh np → wfN D w col np E rows → okE D np E → D 75 (D 59 43) ≤ np → M 59 45 = 0 → agA σ M → σ 59 46 = 120 - n → (σ 59 48 = 0 ∨ σ 59 48 = 1) →
  (∀ M', frN s cb lh np E M M' → M' 59 31 = s → M' 59 33 = cb → M' 59 35 = lh → M' 59 42 = np → altL D (D 59 43) n [(w, col, np, E, rows)] σ M' → Q M') → R_node e d s lst w M Q
theorem frQ_br {s' cb' lh lh' np np' q v v' : Int} {E E' M0 M M1 M2 : xM} (hfr : frQ s' cb' lh np E q M0 M) (hfB : frB s' cb' lh np q M M1) (fr2 : frN s' cb' lh' np' E' M1 M2) (hq : E 89 q = 0) (h1 : lh ≤ lh') (h2 : np ≤ np') (hE : ∀ i, E 89 i = 1 → i < np → E' 89 i = 1) : frQ s' cb' lh np E q M0 (xup (xup M2 59 42 v) 59 35 v') := by
  intro c i k hk
  have hq2 : (c = 89 ∨ c = 90 ∨ c = 91 ∨ c = 92) → i ≠ q := by
    rintro (z | z) zi
    · exact hk z zi
    · have := (k.2.2.2.2.2.2.1 z).2
      rw [zi, hq] at this
      cases this
  have k1 : ∀ j, (j = 31 ∨ j = 33 ∨ j = 35 ∨ j = 42 ∨ j = 45 ∨ j = 46 ∨ j = 48 ∨ j = 50) → ¬ (c = 59 ∧ i = j) := fun j hj z => k.1 ⟨z.1, by rw [z.2]; exact hj⟩
  rw [xup_ap, if_neg (k1 35 (by decide)), xup_ap, if_neg (k1 42 (by decide)), fr2 c i (kpN_mono k (Int.le_refl _) (Int.le_refl _) h1 h2 (hE i)), hfB c i (fun z => k.1 ⟨z.1, by rcases z.2 with y | y | y | y <;> simp [y]⟩) (fun z => k.2.1 (Or.inl z)) (fun z => k.2.1 (Or.inr z)) k.2.2.1 k.2.2.2.1 k.2.2.2.2.1 k.2.2.2.2.2.1 hq2]
  exact hfr c i k hk
section RND
variable {e : yE} {D E : xM} {s w cb lst lh np : Int} {col : Int → Int}
theorem okB_of {M : xM} {N : Int} (hwp : wfP D) (hst : stt D M) (hb : bnd N s w cb lst lh np) (h87 : ∀ k, 0 ≤ k → k < w → M 87 (lst + k) = col k) : okB D M s w cb col lst := by
  obtain ⟨a, b, c, d, f, g⟩ := hb
  exact ⟨hwp, ⟨stt_c hst 68 (by omega), stt_c hst 70 (by omega), stt_c hst 71 (by omega)⟩, by omega, by omega, by omega, by omega, h87⟩
/-- a row is taken, or asked for -/
theorem s_leaf {n d : Nat} {σ M : xM} {Q : xM → Prop} {rows : List aR} {r : aR} {rs : List aR} (hs : RSh e) (hg : gOK D) (h44 : D 59 44 = 0) (IH : ∀ k, k < n → NodeOK e D k) (hd : 3 * n + 429 ≤ d) (hst : stt D M) (hn : ndR M s w cb (r :: rs)) (h87 : ∀ k, 0 ≤ k → k < w → M 87 (lst + k) = col k) (h42 : M 59 42 = np) (h35 : M 59 35 = lh) (hp : plc M np E) (hb : bnd (120 - n) s w cb lst lh np) (hwf : wfN D w col np E (r :: rs)) (hE : okE D np E) (hwd : D 75 (D 59 43) ≤ np) (h45 : M 59 45 = 0) (hag : agA σ M) (h46 : σ 59 46 = 120 - n) (h48 : σ 59 48 = 0 ∨ σ 59 48 = 1) (hshp : shp D w col rows = some (r :: rs, -1))
    (h : ∀ M', frN s cb lh np E M M' → M' 59 35 = lh → M' 59 42 = np → altL D (D 59 43) n [(w, col, np, E, rows)] σ M' → Q M') : R_leaf e d s lst w M Q := by
  have hb' := hb
  obtain ⟨b1, b2, b3, b4, b5, b6⟩ := hb'
  obtain ⟨d1, rfl⟩ : ∃ d1, d = d1 + 2 := ⟨d - 2, by omega⟩
  have hg' := hg
  obtain ⟨gp, gt, gv, g43, g75, g79⟩ := hg'
  have h46' : M 59 46 = 120 - n := by rw [hag 59 46 (Or.inr (Or.inl ⟨rfl, by omega⟩))]; exact h46
  have hr := hwf.2.1 r (by simp)
  have hr12 := hr.2.1
  have hlen := hwf.2.2
  rw [List.length_cons] at hlen
  have hI := hn.2.2.2 0 r rfl
  rw [show s + ((0 : Nat) : Int) = s by omega] at hI
  have e43 : M 59 43 = D 59 43 := hst 59 43 (by omega)
  have e83 : M 83 s = r.1 := hI.1
  have e79 : M 79 = D 79 := stt_c hst 79 (by omega)
  have hrg := g79 (12 * D 59 43 + r.1) (by omega) (by omega)
  obtain ⟨x, hx⟩ : ∃ x, x = D 79 (12 * D 59 43 + r.1) := ⟨_, rfl⟩
  rw [← hx] at hrg
  -- it is counted, or there are too many
  have main : ∀ k, (k = 1 ∧ 0 ≤ x ∨ k = 2 ∧ x < 0) → R_leaf_53 e (d1 + 1) s lst w r.1 x k (xup M 94 4 (xor32 (M 94 4) (xshl32 1 r.1))) Q := by
    intro k hk
    obtain ⟨M1, hM1⟩ : ∃ z : xM, z = xup M 94 4 (xor32 (M 94 4) (xshl32 1 r.1)) := ⟨_, rfl⟩
    rw [← hM1]
    have f45 : M1 59 45 = 0 := by rw [hM1, xrd (by decide)]; exact h45
    have f46 : M1 59 46 = 120 - n := by rw [hM1, xrd (by decide)]; exact h46'
    have fr1 : frN s cb lh np E M M1 := by rw [hM1]; exact frN_up (fun _ _ _ => rfl) nk_94
    have bit : agA (xup σ 94 4 (xor32 (σ 94 4) (xshl32 1 r.1))) M1 := by
      rw [hM1, hag 94 4 (Or.inl ⟨rfl, by omega⟩)]; exact agA_up hag
    refine t_leaf_53 hs (s_countNode hs (Or.inl f45) (by omega) (by omega) (fun _ c => ?_) (fun c => ?_))
    · obtain ⟨M2, hM2⟩ : ∃ z : xM, z = xup (xup (xup M1 59 45 0) 59 46 (M1 59 46 + 1)) 94 k (M1 94 k + 1) := ⟨_, rfl⟩
      rw [← hM2]
      obtain ⟨n', rfl⟩ : ∃ n', n = n' + 1 := ⟨n - 1, by omega⟩
      have fr2 : frN s cb lh np E M M2 := by rw [hM2]; exact frN_trans fr1 fr_cnt
      have o2 : ∀ i, i ≠ 45 → i ≠ 46 → M2 59 i = M 59 i := by
        intro i h1 h2
        rw [hM2, xrd (by decide), xri h2, xri h1, hM1, xrd (by decide)]
      have c2 : ∀ c, c ≠ 59 → c ≠ 94 → M2 c = M c := by
        intro c h1 h2
        rw [hM2, xrd h2, xrd h1, xrd h1, hM1, xrd h2]
      have f45' : M2 59 45 = 0 := by rw [hM2, xrd (by decide), xri (by decide), xrs]
      have ev : evt D (D 59 43) E (r :: rs) (-1) = (k, r.1, E) := by
        unfold evt
        rw [if_pos (by omega)]
        show (if D 79 (12 * D 59 43 + r.1) < 0 then _ else _) = _
        rw [← hx]
        rcases hk with ⟨a, b⟩ | ⟨a, b⟩
        · rw [if_neg (by omega), a]
        · rw [if_pos b, a]
      have ag2 : agA (app D (D 59 43) σ (k, r.1, E)) M2 := by
        have := agA_cnt (k := k) (v := 0) bit (by omega)
        rw [xrd (by decide), xri (by omega)] at this
        unfold app
        rw [if_neg (by show ¬ k = 3; omega), if_neg (by show ¬ k = 0; omega), hM2]
        exact this
      refine ⟨⟨by omega, by omega⟩, fun z => absurd z (by omega), fun _ => ⟨hrg, fun cx => ⟨by rw [o2 44 (by omega) (by omega), hst 59 44 (by omega), h44]; exact ⟨by omega, by omega⟩, fun _ => ?_, fun z => absurd (by rw [o2 44 (by omega) (by omega), hst 59 44 (by omega)]; exact h44) z⟩, fun cx => ?_⟩⟩
      · -- a question
        have h31 := hn.1
        rw [List.length_cons] at h31
        have ec : chd D (D 59 43) w col np E (r :: rs) (-1) = [(w, col, np, E, rs)] := by
          unfold chd
          rw [if_pos (by omega)]
          show (if D 79 (12 * D 59 43 + r.1) < 0 then _ else _) = _
          rw [← hx, if_neg (by omega)]
        refine t_leaf_141 hs ?_
        rw [o2 31 (by omega) (by omega)]
        have hm1 := mul_0 (i := (r :: rs).length) (w := w) b3.1
        have hm2 := mul_le (i := (r :: rs).length) (j := 24) (w := w) (by rw [List.length_cons]; omega) b3.1
        have hm3 : ((24 : Nat) : Int) * w = 24 * w := rfl
        have hrowM : ∀ (i : Nat) q, (r :: rs)[i]? = some q → rwI M2 (s + i) w q ∧ 0 ≤ M2 84 (s + i) ∧ M2 84 (s + i) + w ≤ cb + ((r :: rs).length : Int) * w := by
          intro i q hq
          have hi : i < (r :: rs).length := by
            rcases Nat.lt_or_ge i (r :: rs).length with h | h
            · exact h
            · rw [List.getElem?_eq_none h] at hq; cases hq
          obtain ⟨u1, u2, u3⟩ := hn.2.2.2 i q hq
          have u4 := hn.2.2.1 i hi
          have hm4 := mul_st (i := i) (j := (r :: rs).length) (w := w) hi b3.1
          have hm5 := mul_0 (i := i) (w := w) b3.1
          rw [c2 84 (by decide) (by decide)]
          refine ⟨⟨by rw [c2 83 (by decide) (by decide)]; exact u1, fun k h0 h1 => by rw [c2 84 (by decide) (by decide), c2 86 (by decide) (by decide)]; exact u2 k h0 h1, fun a h0 h1 => by rw [c2 85 (by decide) (by decide)]; exact u3 a h0 h1⟩, by omega, by omega⟩
        have hen : M 59 31 = s + 1 + (rs.length : Int) := by rw [h31]; omega
        have h152 := s_lf152 (e := e) (D := D) (d := d1) (Mx := M2) (Q := Q) (lst := lst) (s := s) (w := w) (r := r) (rs := rs) (en := M 59 31) (cb' := cb + ((r :: rs).length : Int) * w) hs gp (by omega) b2.1 hen (by omega) (by omega) (by omega) hrowM (fun q hq => okT_C (hwf.2.1 q (List.mem_cons_of_mem _ hq)).1) ?_ rs [] M2 rfl ?_ frS_refl
        · rw [show s + 1 + (([] : List aR).length : Int) = s + 1 by simp] at h152
          exact h152
        · intro M3 hn3 hfr3
          have hen2 : M 59 31 = s + ((r :: rs).length : Int) := by rw [List.length_cons]; exact h31
          have fr3 : frN s cb lh np E M M3 := by
            intro c i k
            rw [hfr3 c i (kpN_S (kpN_mono (E' := E) k (by omega) (by omega) (Int.le_refl _) (Int.le_refl _) (fun z _ => z)))]
            exact fr2 c i k
          have st3 : stt D M3 := frN_stt fr3 hst
          have hbl := bnd_leaf (N' := 120 - n') (rows := (r :: rs).length) hb (by omega) (by omega) (by rw [List.length_cons]; omega)
          rw [← hen2] at hbl
          have p3 : plc M3 np E := by
            intro q q0 q1
            rw [frS_c hfr3 88 (by omega), frS_c hfr3 89 (by omega), frS_c hfr3 90 (by omega), frS_c hfr3 91 (by omega), frS_c hfr3 92 (by omega), c2 88 (by decide) (by decide), c2 89 (by decide) (by decide), c2 90 (by decide) (by decide), c2 91 (by decide) (by decide), c2 92 (by decide) (by decide)]
            exact hp q q0 q1
          refine IH n' (by omega) (d1 + 1) (M 59 31) (cb + ((r :: rs).length : Int) * w) lst lh w col np E rs (app D (D 59 43) σ (k, r.1, E)) M3 Q (by omega) st3 hn3 (fun j h0 h1 => by rw [frS_c hfr3 87 (by omega), c2 87 (by decide) (by decide)]; exact h87 j h0 h1) (by rw [frS_o hfr3 42 (by omega), o2 42 (by omega) (by omega)]; exact h42) (by rw [frS_o hfr3 35 (by omega), o2 35 (by omega) (by omega)]; exact h35) p3 hbl ⟨hwf.1, fun q hq => hwf.2.1 q (List.mem_cons_of_mem _ hq), by omega⟩ hE hwd (by rw [frS_o hfr3 45 (by omega)]; exact f45') ?_ (by rw [app_46 (by show 0 ≤ k ∧ k ≤ 3; omega)]; omega) (app_48 h48) ?_
          · intro c i hc
            rw [hfr3 c i (by unfold acC at hc; exact ⟨by omega, by omega, by omega, by omega, by omega⟩)]
            exact ag2 c i hc
          · intro M4 fr4 a31 a33 a35 a42 alt
            refine h M4 ?_ a35 a42 (altL_node hshp (by rw [ec, ev]; exact alt))
            intro c i k
            rw [fr4 c i (kpN_mono (E' := E) k (by omega) (by omega) (Int.le_refl _) (Int.le_refl _) (fun z _ => z))]
            exact fr3 c i k
        · refine ⟨?_, ?_, fun i hi => by simp at hi, fun i q hq => by simp at hq⟩
          · rw [o2 31 (by omega) (by omega)]; simp
          · rw [o2 33 (by omega) (by omega), hn.2.1]; simp
      · -- taken
        have ec : chd D (D 59 43) w col np E (r :: rs) (-1) = [] := by
          unfold chd
          rw [if_pos (by omega)]
          show (if D 79 (12 * D 59 43 + r.1) < 0 then _ else _) = _
          rw [← hx, if_pos (by omega)]
        refine h M2 fr2 (by rw [o2 35 (by omega) (by omega)]; exact h35) (by rw [o2 42 (by omega) (by omega)]; exact h42) (altL_node hshp ?_)
        rw [ec, ev]
        exact altL_nil f45' ag2 (app_48 h48)
    · have hn0 : n = 0 := by omega
      subst hn0
      refine ⟨⟨by omega, by omega⟩, fun _ => h _ (frN_trans fr1 fr_cnt) ?_ ?_ (Or.inl ⟨?_, fun rest => rfl⟩), fun z => absurd rfl z⟩
      · rw [xrd (by decide), xri (by decide), xri (by decide), hM1, xrd (by decide)]; exact h35
      · rw [xrd (by decide), xri (by decide), xri (by decide), hM1, xrd (by decide)]; exact h42
      · rw [xrd (by decide), xri (by decide), xrs]
  refine t_leaf (t_leaf_0 hs ?_)
  rw [e43, e83, e79, ← hx]
  refine ⟨by omega, by omega, fun M1 e1 => ?_⟩
  rw [e1]
  exact ⟨hrg, fun c => main 1 (Or.inl ⟨rfl, c⟩), fun c => main 2 (Or.inr ⟨rfl, by omega⟩)⟩
/-- a branch of a test is gone through -/
theorem s_brT {n k d : Nat} {σ M0 M : xM} {Q : xM → Prop} {rows : List aR} {at_ key : Int} {oth : Bool} (hs : RSh e) (hg : gOK D) (h44 : D 59 44 = 0) (IH : ∀ k, k < n → NodeOK e D k) (hk : k < n) (hd : 3 * k + 431 ≤ d) (hst : stt D M0) (hn : ndR M0 s w cb rows) (h87 : ∀ k, 0 ≤ k → k < w → M0 87 (lst + k) = col k) (hp : plc M0 np E) (hb : bnd (120 - n) s w cb lst lh np) (hwf : wfN D w col np E rows) (hE : okE D np E) (hwd : D 75 (D 59 43) ≤ np) (hat : 0 ≤ at_ ∧ at_ < w) (hne : ∀ q ∈ rows, ¬ (0 ≤ q.2.1 at_ ∧ D 68 (q.2.1 at_) = 4)) (hkk : okK D (E 88 (col at_)) key oth) (hk2 : 0 < E 88 (col at_) → 0 ≤ key ∧ key < D 60 (E 88 (col at_))) (hkey : rg key)
    (hfr : frQ (s + rows.length) (cb + (rows.length : Int) * w) lh np E (col at_) M0 M) (a31 : M 59 31 = s + rows.length) (a33 : M 59 33 = cb + (rows.length : Int) * w) (a35 : M 59 35 = lh) (a42 : M 59 42 = np) (h45 : M 59 45 = 0) (hag : agA σ M) (h46 : σ 59 46 = 120 - k) (h48 : σ 59 48 = 0 ∨ σ 59 48 = 1)
    (h : ∀ M', frQ (s + rows.length) (cb + (rows.length : Int) * w) lh np E (col at_) M0 M' → M' 59 31 = s + rows.length → M' 59 33 = cb + (rows.length : Int) * w → M' 59 35 = lh → M' 59 42 = np → altL D (D 59 43) k [chB D w col np E at_ rows key oth] σ M' → Q M') : R_branch e d s (s + rows.length) at_ key (oI oth) lst w M Q := by
  have hb' := hb
  obtain ⟨b1, b2, b3, b4, b5, b6⟩ := hb'
  obtain ⟨d1, rfl⟩ : ∃ d1, d = d1 + 2 := ⟨d - 2, by omega⟩
  have hg' := hg
  obtain ⟨gp, gt, gv, g43, g75, g79⟩ := hg'
  have hlen := hwf.2.2
  obtain ⟨-, -, hcol, hinj⟩ := hwf.1
  have hca := hcol at_ hat.1 hat.2
  have hmul := mul_0 (i := rows.length) (w := w) b3.1
  have st1 : stt D M := frQ_stt hfr hst
  have hrow : ∀ c i, c = 83 ∨ c = 84 ∨ c = 85 ∨ c = 86 → (c = 83 ∨ c = 84 → i < s + rows.length) → (c = 85 → i < 16 * (s + rows.length)) → (c = 86 → i < cb + (rows.length : Int) * w) → M c i = M0 c i := by
    intro c i hc h1 h2 h3
    exact hfr c i ⟨by omega, h1, h2, h3, by omega, by omega, by omega, by omega, by omega⟩ (by omega)
  have hnM : ndR M s w cb rows := by
    refine ⟨a31, a33, fun i hi => ?_, fun i q hq => ?_⟩
    · rw [hrow 84 _ (by omega) (by omega) (by omega) (by omega)]; exact hn.2.2.1 i hi
    · have hi : i < rows.length := by
        rcases Nat.lt_or_ge i rows.length with h | h
        · exact h
        · rw [List.getElem?_eq_none h] at hq; cases hq
      obtain ⟨u1, u2, u3⟩ := hn.2.2.2 i q hq
      have u4 := hn.2.2.1 i hi
      have hm4 := mul_st (i := i) (j := rows.length) (w := w) hi b3.1
      refine ⟨by rw [hrow 83 _ (by omega) (by omega) (by omega) (by omega)]; exact u1, fun k h0 h1 => ?_, fun a h0 h1 => ?_⟩
      · rw [hrow 84 _ (by omega) (by omega) (by omega) (by omega), hrow 86 _ (by omega) (by omega) (by omega) (by omega)]; exact u2 k h0 h1
      · rw [hrow 85 _ (by omega) (by omega) (by omega) (by omega)]; exact u3 a h0 h1
  obtain ⟨m, hm⟩ : ∃ m, m = bMn D (E 88 (col at_)) key oth := ⟨_, rfl⟩
  have hmr := bMn_rg gt hca.2.2 hkk
  rw [← hm] at hmr
  have hch : chB D w col np E at_ rows key oth = (w - 1 + m, bCol col np at_ m, np + m, bEn D E (col at_) np m key oth, bRs D np at_ m key oth rows) := by unfold chB; rw [← hm]
  refine s_branch (E := E) (D := D) (N := 120 - n) (lh := lh) (np := np) (cb := cb) (col := col) (m := m) hs gp gt st1 hnM (fun k h0 h1 => ?_) a42 ?_ ?_ hb (by omega) a35 hwf hat hne hkk hkey (Or.inl (by rw [st1 59 44 (by omega)]; exact h44)) (fun z => by rw [st1 59 44 (by omega), h44] at z; omega) hm ?_
  · rw [hfr 87 _ ⟨by omega, by omega, by omega, by omega, by omega, by omega, by omega, by omega, by omega⟩ (by omega)]; exact h87 k h0 h1
  · rw [hfr 88 _ ⟨by omega, by omega, by omega, by omega, by omega, by omega, by omega, by omega, by omega⟩ (by omega)]; exact (hp _ hca.1.1 hca.1.2).1
  · intro x x0 x1 hxq
    obtain ⟨p1, p2, p3⟩ := hp x x0 x1
    refine ⟨?_, ?_, fun z => ?_⟩
    · rw [hfr 88 _ ⟨by omega, by omega, by omega, by omega, by omega, by omega, by omega, by omega, by omega⟩ (by omega)]; exact p1
    · rw [hfr 89 _ ⟨by omega, by omega, by omega, by omega, by omega, by omega, by omega, by omega, by omega⟩ (by omega)]; exact p2
    · have g : ∀ c, c = 90 ∨ c = 91 ∨ c = 92 → M c x = M0 c x := fun c hc => hfr c x ⟨by omega, by omega, by omega, by omega, by omega, by omega, fun _ => ⟨x1, z⟩, by omega, by omega⟩ (by omega)
      rw [g 90 (by omega), g 91 (by omega), g 92 (by omega)]
      exact p3 z
  · intro M1 hn1 h871 h421 h351 hp1 _ hfB
    have st2 : stt D M1 := by
      intro c i hc
      rw [hfB c i (by omega) (by omega) (by omega) (by omega) (by omega) (by omega) (by omega) (by omega)]
      exact st1 c i hc
    have wfc := wfN_chB (D := D) (E := E) (key := key) (oth := oth) gp gt hwf hat hne hkk hm
    have okc := okE_chB (D := D) (E := E) (key := key) (oth := oth) gt gv hE hca.1 hm hkk hk2
    have bc := bnd_chB (N' := 120 - k) (rows := rows.length) (m := m) hb (by omega) (by omega) hlen (by omega) hmr
    refine IH k hk (d1 + 1) (s + rows.length) (cb + (rows.length : Int) * w) lh (lh + (w - 1 + m)) (w - 1 + m) (bCol col np at_ m) (np + m) (bEn D E (col at_) np m key oth) (bRs D np at_ m key oth rows) σ M1 _ (by omega) st2 hn1 h871 h421 h351 hp1 bc wfc okc (by omega) (by rw [hfB 59 45 (by omega) (by omega) (by omega) (by omega) (by omega) (by omega) (by omega) (by omega)]; exact h45) ?_ h46 h48 ?_
    · intro c i hc
      rw [hfB c i (by unfold acC at hc; omega) (by unfold acC at hc; omega) (by unfold acC at hc; omega) (by unfold acC at hc; omega) (by unfold acC at hc; omega) (by unfold acC at hc; omega) (by unfold acC at hc; omega) (by unfold acC at hc; omega)]
      exact hag c i hc
    · intro M2 fr2 c31 c33 c35 c42 alt2
      refine h _ ?_ (by rw [xri (by decide), xri (by decide)]; exact c31) (by rw [xri (by decide), xri (by decide)]; exact c33) xrs (by rw [xri (by decide), xrs]) ?_
      · refine frQ_br hfr hfB fr2 hca.2.1 (by omega) (by omega) (fun i z zi => ?_)
        by_cases hi : i = col at_
        · rw [hi, hca.2.1] at z; omega
        · unfold bEn; rw [if_neg (by omega), if_neg (by omega), if_neg (fun y => hi y.1), if_neg (fun y => hi y.1), if_neg (fun y => hi y.1), if_neg (fun y => hi y.1)]; exact z
      · rw [hch]
        rcases alt2 with z | ⟨z1, evs, z2, z3, z4⟩
        · exact Or.inl ⟨by rw [xri (by decide), xri (by decide)]; exact z.1, z.2⟩
        · refine Or.inr ⟨by rw [xri (by decide), xri (by decide)]; exact z1, evs, z2, ?_, z4⟩
          exact agA_no (agA_no z3 (by unfold acC; omega)) (by unfold acC; omega)
end RND
