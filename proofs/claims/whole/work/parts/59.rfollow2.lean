/-! ===== the reference follows values: tests, and every node ===== -/
section RFL2
variable {e : yE} {D E : xM} {s w cb lst lh np : Int} {col : Int → Int}
theorem frQ_rows {M0 M : xM} {rows : List aR} {q : Int} (hw : 0 ≤ w) (hn : ndR M0 s w cb rows) (hfr : frQ (s + rows.length) (cb + (rows.length : Int) * w) lh np E q M0 M) (a31 : M 59 31 = s + rows.length) (a33 : M 59 33 = cb + (rows.length : Int) * w) : ndR M s w cb rows := by
  have hrow : ∀ c i, c = 83 ∨ c = 84 ∨ c = 85 ∨ c = 86 → (c = 83 ∨ c = 84 → i < s + rows.length) → (c = 85 → i < 16 * (s + rows.length)) → (c = 86 → i < cb + (rows.length : Int) * w) → M c i = M0 c i := by
    intro c i hc h1 h2 h3
    exact hfr c i ⟨by omega, h1, h2, h3, by omega, by omega, by omega, by omega, by omega⟩ (by omega)
  refine ⟨a31, a33, fun i hi => ?_, fun i q hq => ?_⟩
  · rw [hrow 84 _ (by omega) (by omega) (by omega) (by omega)]; exact hn.2.2.1 i hi
  · have hi : i < rows.length := by
      rcases Nat.lt_or_ge i rows.length with h | h
      · exact h
      · rw [List.getElem?_eq_none h] at hq; cases hq
    obtain ⟨u1, u2, u3⟩ := hn.2.2.2 i q hq
    have u4 := hn.2.2.1 i hi
    have hm4 := mul_st (i := i) (j := rows.length) (w := w) hi hw
    refine ⟨by rw [hrow 83 _ (by omega) (by omega) (by omega) (by omega)]; exact u1, fun k h0 h1 => ?_, fun a h0 h1 => ?_⟩
    · rw [hrow 84 _ (by omega) (by omega) (by omega) (by omega), hrow 86 _ (by omega) (by omega) (by omega) (by omega)]; exact u2 k h0 h1
    · rw [hrow 85 _ (by omega) (by omega) (by omega) (by omega)]; exact u3 a h0 h1
theorem s_testF {n d k : Nat} {M0 : xM} {Q : xM → Prop} {rows : List aR} {at_ : Int} {va : Int → Int} (hs : RSh e) (hg : fOK D) (h44 : D 59 44 = 1) (IH : ∀ k, k < n + 1 → FolOK e D k) (hd : 3 * n + 432 ≤ d) (hk : n ≤ k) (hst : stt D M0) (hn : ndR M0 s w cb rows) (h87 : ∀ k, 0 ≤ k → k < w → M0 87 (lst + k) = col k) (h42 : M0 59 42 = np) (h35 : M0 59 35 = lh) (hp : plc M0 np E) (hb : bnd (120 - (n + 1 : Nat)) s w cb lst lh np) (hwf : wfN D w col np E rows) (hgd : ∀ r ∈ rows, gdI D (D 59 43) w r) (h93 : ∀ q, 0 ≤ q → q < np → M0 93 q = va q) (hval : valOK D np E va) (hat : 0 ≤ at_ ∧ at_ < w) (hne : ∀ q ∈ rows, ¬ (0 ≤ q.2.1 at_ ∧ D 68 (q.2.1 at_) = 4)) (h45 : M0 59 45 = 0) (h46 : 0 ≤ M0 59 46 ∧ M0 59 46 ≤ 120 - n) (hch : ∀ c ∈ chT D w col np E at_ rows, ∃ k rest', k ≤ n ∧ fin_ D (D 59 43) k (c :: rest') ≠ none) {t : Int × Int × Int × (Int → Int)}
    (ht1 : D 65 (va (col at_)) ∈ kys D at_ rows [] → t = wk D (D 59 43) k (chB D w col np E at_ rows (D 65 (va (col at_))) false) (vaN D va np (col at_)))
    (ht2 : D 65 (va (col at_)) ∉ kys D at_ rows [] → (E 88 (col at_) = 0 ∨ ((kys D at_ rows []).length : Int) < D 60 (E 88 (col at_))) → t = wk D (D 59 43) k (chB D w col np E at_ rows (lA (kys D at_ rows []) 0) true) va)
    (ht3 : D 65 (va (col at_)) ∉ kys D at_ rows [] → ¬ (E 88 (col at_) = 0 ∨ ((kys D at_ rows []).length : Int) < D 60 (E 88 (col at_))) → t.1 = 0 ∧ t.2.1 = 0)
    (h : ∀ M', frN s cb lh np E M0 M' → M' 59 35 = lh → M' 59 42 = np → M' 59 45 = 0 → M' 94 0 = M0 94 0 + t.1 → M' 94 1 = M0 94 1 + t.2.1 → Q M') : R_test e d s at_ lst w M0 Q := by
  have hb' := hb
  obtain ⟨b1, b2, b3, b4, b5, b6⟩ := hb'
  obtain ⟨d1, rfl⟩ : ∃ d1, d = d1 + 4 := ⟨d - 4, by omega⟩
  have hg' := hg
  obtain ⟨gp, gt, gv, gb, g43, g79⟩ := hg'
  have hlen := hwf.2.2
  have hca := hwf.1.2.2.1 at_ hat.1 hat.2
  have hrs := hwf.2.1
  obtain ⟨p1, p2, p3⟩ := hp _ hca.1.1 hca.1.2
  have hmul := mul_0 (i := rows.length) (w := w) b3.1
  have hty8 := gt.1
  obtain ⟨hv1, hv2⟩ := hval _ hca.1.1 hca.1.2
  have g300 := gv.1
  obtain ⟨hh1, hh2, hh3⟩ := gv.2 _ hv1.1 hv1.2
  obtain ⟨hd0, hhd⟩ : ∃ hd0, hd0 = D 65 (va (col at_)) := ⟨_, rfl⟩
  rw [← hhd] at ht1 ht2 ht3 hh1 hh3
  obtain ⟨ks, hks⟩ : ∃ ks, ks = kys D at_ rows [] := ⟨_, rfl⟩
  have hkl := kys_len (D := D) (at_ := at_) rows []
  rw [← hks, List.length_nil] at hkl
  rw [← hks] at ht1 ht2 ht3
  have hmem : ∀ y, y ∈ ks ↔ ∃ r ∈ rows, 0 ≤ r.2.1 at_ ∧ D 70 (r.2.1 at_) = y := by
    intro y; rw [hks, kys_mem]; simp
  have hord : ks.Pairwise (· < ·) := by rw [hks]; exact kys_ord rows [] List.Pairwise.nil
  have hT : chT D w col np E at_ rows = ks.map (fun k => chB D w col np E at_ rows k false) ++ (if E 88 (col at_) = 0 ∨ (ks.length : Int) < D 60 (E 88 (col at_)) then [chB D w col np E at_ rows (lA ks 0) true] else []) := by
    unfold chT; rw [← hks]
  have hok0 : okB D M0 s w cb col lst := okB_of gp hst hb h87
  have e44 : M0 59 44 = 1 := by rw [hst 59 44 (by omega)]; exact h44
  have e93 : M0 93 (col at_) = va (col at_) := h93 _ hca.1.1 hca.1.2
  have e65 : M0 65 = D 65 := stt_c hst 65 (by omega)
  -- the end
  have fin : ∀ M, frQ (s + rows.length) (cb + (rows.length : Int) * w) lh np E (col at_) M0 M → M 59 35 = lh → M 59 42 = np → M 59 45 = 0 → M 94 0 = M0 94 0 + t.1 → M 94 1 = M0 94 1 + t.2.1 → (0 ≤ col at_ ∧ col at_ < 1000) ∧ ∀ M1 : xM, M1 = xup M 89 (col at_) 0 → Q M1 := by
    intro M hfr a35 a42 a45 t0 t1
    refine ⟨by omega, fun M1 e1 => ?_⟩
    rw [e1]
    refine h _ ?_ (by rw [xrd (by decide)]; exact a35) (by rw [xrd (by decide)]; exact a42) (by rw [xrd (by decide)]; exact a45) (by rw [xrd (by decide)]; exact t0) (by rw [xrd (by decide)]; exact t1)
    intro c i k
    rw [xup_ap]
    by_cases hc : c = 89 ∧ i = col at_
    · rw [if_pos hc, hc.1, hc.2, p2]; exact hca.2.1.symm
    · rw [if_neg hc]
      exact hfr c i (kpN_mono k (by omega) (by omega) (Int.le_refl _) (Int.le_refl _) (fun z _ => z)) (fun z zi => hc ⟨z, zi⟩)
  have fr0 : frQ (s + rows.length) (cb + (rows.length : Int) * w) lh np E (col at_) M0 M0 := fun _ _ _ _ => rfl
  -- a branch from the start
  have brn : ∀ (key : Int) (oth : Bool) (va' : Int → Int) (P : xM → Prop), okK D (E 88 (col at_)) key oth → rg key → chB D w col np E at_ rows key oth ∈ chT D w col np E at_ rows → (∀ m, m = bMn D (E 88 (col at_)) key oth → valOK D (np + m) (bEn D E (col at_) np m key oth) va' ∧ (∀ x, 0 ≤ x → x < np → va' x = va x) ∧ ∀ j, 0 ≤ j → j < m → va' (np + j) = D 66 (3 * va (col at_) + j)) → t = wk D (D 59 43) k (chB D w col np E at_ rows key oth) va' → (∀ M', frQ (s + rows.length) (cb + (rows.length : Int) * w) lh np E (col at_) M0 M' → M' 59 31 = s + rows.length → M' 59 33 = cb + (rows.length : Int) * w → M' 59 35 = lh → M' 59 42 = np → M' 59 45 = 0 → M' 94 0 = M0 94 0 + t.1 → M' 94 1 = M0 94 1 + t.2.1 → P M') → R_branch e (d1 + 3) s (s + rows.length) at_ key (oI oth) lst w M0 P := by
    intro key oth va' P hkk hkey hmemc hva htt hP
    obtain ⟨m, hm⟩ : ∃ m, m = bMn D (E 88 (col at_)) key oth := ⟨_, rfl⟩
    obtain ⟨hva1, hva2, hva3⟩ := hva m hm
    have hmr := bMn_rg gt hca.2.2 hkk
    rw [← hm] at hmr
    have hcB : chB D w col np E at_ rows key oth = (w - 1 + m, bCol col np at_ m, np + m, bEn D E (col at_) np m key oth, bRs D np at_ m key oth rows) := by unfold chB; rw [← hm]
    obtain ⟨k', rest', hk', hfin⟩ := hch _ hmemc
    rw [hcB] at htt hfin
    refine s_branch (d := d1 + 1) (E := E) (D := D) (N := 120 - (n + 1 : Nat)) (lh := lh) (np := np) (cb := cb) (col := col) (m := m) hs gp gt hst hn h87 h42 p1 (fun x x0 x1 _ => hp x x0 x1) hb (by omega) h35 hwf hat hne hkk hkey (Or.inr e44) (fun _ => by rw [e93]; omega) hm ?_
    intro M1 hn1 h871 h421 h351 hp1 hv93 hfB
    have st2 : stt D M1 := by
      intro c i hc
      rw [hfB c i (by omega) (by omega) (by omega) (by omega) (by omega) (by omega) (by omega) (by omega)]
      exact hst c i hc
    have wfc := wfN_chB (D := D) (E := E) (key := key) (oth := oth) gp gt hwf hat hne hkk hm
    have bc := bnd_chB (N' := 120 - k') (rows := rows.length) (m := m) hb (by omega) (by omega) hlen (by omega) hmr
    have s94 : ∀ i, M1 94 i = M0 94 i := fun i => hfB 94 i (by omega) (by omega) (by omega) (by omega) (by omega) (by omega) (by omega) (by omega)
    have s46 : M1 59 46 = M0 59 46 := hfB 59 46 (by omega) (by omega) (by omega) (by omega) (by omega) (by omega) (by omega) (by omega)
    refine IH k' (by omega) (d1 + 2) (s + rows.length) (cb + (rows.length : Int) * w) lh (lh + (w - 1 + m)) (w - 1 + m) (bCol col np at_ m) (np + m) (bEn D E (col at_) np m key oth) (bRs D np at_ m key oth rows) M1 _ va' k rest' (by omega) (by omega) st2 hn1 h871 h421 h351 hp1 bc wfc ?_ ?_ hva1 (by rw [hfB 59 45 (by omega) (by omega) (by omega) (by omega) (by omega) (by omega) (by omega) (by omega)]; exact h45) (by rw [s46]; omega) hfin ?_
    · intro r' hr'
      obtain ⟨r, hr1, hr2, hr3⟩ := bRs_mem rows hr'
      intro g0 a ha
      have e1 : r'.1 = r.1 := by rw [hr2]; rfl
      rw [e1] at g0 ha
      obtain ⟨u1, u2⟩ := hgd r hr1 g0 a ha
      refine ⟨u1, ?_⟩
      rw [hr2]
      exact hsN_bRw gp gt gb hwf.1 hat (hrs r hr1).1 (hne r hr1) hr3 hm hmr u1.1 u1.2 u2
    · intro x x0 x1
      by_cases hx : x < np
      · rw [hfB 93 x (by omega) (by omega) (by omega) (by omega) (by omega) (by omega) (by omega) (by omega), hva2 x x0 hx]
        exact h93 x x0 hx
      · have := hv93 (x - np) (by omega) (by omega)
        rw [show np + (x - np) = x by omega, if_neg (by omega), stt_c hst 66 (by omega), e93] at this
        have h3 := hva3 (x - np) (by omega) (by omega)
        rw [show np + (x - np) = x by omega] at h3
        rw [this, h3]
    · intro M2 fr2 c31 c33 c35 c42 c45 t0 t1
      refine hP _ ?_ (by rw [xri (by decide), xri (by decide)]; exact c31) (by rw [xri (by decide), xri (by decide)]; exact c33) xrs (by rw [xri (by decide), xrs]) (by rw [xri (by decide), xri (by decide)]; exact c45) (by rw [xrd (by decide), xrd (by decide), t0, s94, htt]) (by rw [xrd (by decide), xrd (by decide), t1, s94, htt])
      refine frQ_br fr0 hfB fr2 hca.2.1 (by omega) (by omega) (fun i z zi => ?_)
      by_cases hi : i = col at_
      · rw [hi, hca.2.1] at z; omega
      · unfold bEn; rw [if_neg (by omega), if_neg (by omega), if_neg (fun y => hi y.1), if_neg (fun y => hi y.1), if_neg (fun y => hi y.1), if_neg (fun y => hi y.1)]; exact z
  -- behind the heads, the value's head was met
  have tailB : ∀ (M : xM) (x8 : Int), rg x8 → frQ (s + rows.length) (cb + (rows.length : Int) * w) lh np E (col at_) M0 M → M 59 35 = lh → M 59 42 = np → M 59 45 = 0 → M 94 0 = M0 94 0 + t.1 → M 94 1 = M0 94 1 + t.2.1 → R_test_205 e (d1 + 3) s at_ lst w (col at_) (E 88 (col at_)) (s + rows.length) x8 1 M Q := by
    intro M x8 h8 hfr a35 a42 a45 t0 t1
    have st1 : stt D M := frQ_stt hfr hst
    have hf := fin M hfr a35 a42 a45 t0 t1
    have e44' : M 59 44 = 1 := by rw [st1 59 44 (by omega)]; exact h44
    have h222 : R_test_222 e (d1 + 3) s at_ lst w (col at_) (s + rows.length) 1 M Q := by
      refine t_test_222 hs ?_
      rw [a45, e44']
      exact ⟨⟨by omega, by omega⟩, fun z => absurd rfl z, fun _ => ⟨⟨by omega, by omega⟩, fun z => absurd z (by omega), fun _ => ⟨⟨by omega, by omega⟩, fun _ => hf, fun z => absurd (by omega) z⟩⟩⟩
    refine t_test_205 hs ⟨by exact ⟨by omega, by omega⟩, fun c => h222, fun c => ⟨by omega, ?_⟩⟩
    have e60 : M 60 (E 88 (col at_)) = D 60 (E 88 (col at_)) := st1 60 _ (by omega)
    have h60 := gt.2.1 (E 88 (col at_)) (by omega) (by omega)
    rw [e60]
    exact ⟨⟨h8, ⟨by omega, by omega⟩⟩, fun _ => hf, fun _ => h222⟩
  -- behind the heads, it was not
  have tailA : hd0 ∉ ks → R_test_205 e (d1 + 3) s at_ lst w (col at_) (E 88 (col at_)) (s + rows.length) ks.length 0 M0 Q := by
    intro hno
    have hend : ¬ (E 88 (col at_) = 0 ∨ (ks.length : Int) < D 60 (E 88 (col at_))) → (0 ≤ col at_ ∧ col at_ < 1000) ∧ ∀ M1 : xM, M1 = xup M0 89 (col at_) 0 → Q M1 := by
      intro z
      obtain ⟨t1, t2⟩ := ht3 hno z
      exact fin M0 fr0 h35 h42 h45 (by omega) (by omega)
    have h222 : (E 88 (col at_) = 0 ∨ (ks.length : Int) < D 60 (E 88 (col at_))) → R_test_222 e (d1 + 3) s at_ lst w (col at_) (s + rows.length) 0 M0 Q := by
      intro more
      refine t_test_222 hs ?_
      rw [h45, e44]
      refine ⟨⟨by omega, by omega⟩, fun z => absurd rfl z, fun _ => ⟨⟨by omega, by omega⟩, fun z => absurd z (by omega), fun _ => ⟨⟨by omega, by omega⟩, fun z => absurd rfl z, fun _ => ?_⟩⟩⟩
      refine t_test_241 hs (s_leastOther (D := D) (cb := cb) (w := w) (col := col) (lst := lst) hs hok0 hn hlen hat (fun r hr => okT_C (hrs r hr).1) ?_)
      rw [← hks]
      have l3 := lA_ge ks 0
      have l4 := lA_le ks 0
      refine brn (lA ks 0) true va _ (fun z => by cases z) (by exact ⟨by omega, by omega⟩) (by rw [hT, if_pos more]; simp) (fun m hm => ?_) (by rw [hks]; rw [hks] at hno more ht2; exact ht2 hno more) ?_
      · have hm0 : m = 0 := by rw [hm]; unfold bMn; rw [if_pos (Or.inl rfl)]
        subst hm0
        refine ⟨fun x x0 x1 => ?_, fun x _ _ => rfl, fun j h0 h1 => by omega⟩
        have b88 : bEn D E (col at_) np 0 (lA ks 0) true 88 x = E 88 x := by
          unfold bEn; rw [if_neg (by omega), if_neg (by omega), if_neg (by omega), if_neg (by omega), if_neg (by omega), if_neg (by omega)]
        rw [b88]; exact hval x x0 (by omega)
      · intro M3 fr3 c31 c33 c35 c42 c45 t0 t1
        exact fin M3 fr3 c35 c42 c45 t0 t1
    refine t_test_205 hs ⟨by exact ⟨by omega, by omega⟩, fun c => h222 (Or.inl c), fun c => ⟨by omega, ?_⟩⟩
    have e60 : M0 60 (E 88 (col at_)) = D 60 (E 88 (col at_)) := hst 60 _ (by omega)
    have h60 := gt.2.1 (E 88 (col at_)) (by omega) (by omega)
    rw [e60]
    exact ⟨⟨by exact ⟨by omega, by omega⟩, ⟨by omega, by omega⟩⟩, fun c2 => hend (by rintro (z | z); exact c z; omega), fun c2 => h222 (Or.inr (by omega))⟩
  -- the heads behind the value's own
  have loopB : ∀ (rm dn : List Int) (M : xM) (x9 : Int), ks = dn ++ rm → hd0 ∈ dn → frQ (s + rows.length) (cb + (rows.length : Int) * w) lh np E (col at_) M0 M → M 59 31 = s + rows.length → M 59 33 = cb + (rows.length : Int) * w → M 59 35 = lh → M 59 42 = np → M 59 45 = 0 → M 94 0 = M0 94 0 + t.1 → M 94 1 = M0 94 1 + t.2.1 → (∀ y, y ∈ dn → ¬ (¬ (0 : Int) = 0 ∨ x9 < y)) → (∀ y, y ∈ rm → (¬ (0 : Int) = 0 ∨ x9 < y)) → rg x9 → R_test_40 e (d1 + 3) s at_ lst w (col at_) (E 88 (col at_)) (s + rows.length) dn.length x9 1 0 1 M Q := by
    intro rm
    induction rm with
    | nil =>
      intro dn M x9 hdr hin hfr a31 a33 a35 a42 a45 t0 t1 hL1 hL2 h9
      have hnm := frQ_rows b3.1 hn hfr a31 a33
      have hok : okB D M s w cb col lst := okB_of gp (frQ_stt hfr hst) hb (fun k h0 h1 => by rw [hfr 87 _ ⟨by omega, by omega, by omega, by omega, by omega, by omega, by omega, by omega, by omega⟩ (by omega)]; exact h87 k h0 h1)
      have hnk := nk_kys (D := D) (at_ := at_) (L := fun y => ¬ (0 : Int) = 0 ∨ x9 < y) (rows := rows) (dn := dn) (rm := []) (by rw [← hks]; exact hdr) hL1 hL2
      have hdl : dn.length = ks.length := by rw [hdr, List.append_nil]
      refine t_test_40 hs ⟨⟨by omega, by omega⟩, fun c => absurd c (by omega), fun _ => ⟨by rw [a45]; exact ⟨by omega, by omega⟩, fun c => absurd a45 c, fun _ => ?_⟩⟩
      have := s_key (e := e) (d := d1 + 2) (D := D) (M := M) (s := s) (w := w) (cb := cb) (lst := lst) (at_ := at_) (q := col at_) (ty := E 88 (col at_)) (x8 := dn.length) (x9 := x9) (x11 := 0) (x12 := 1) (col := col) (rows := rows) (Q := Q) hs hok hnm hlen hat (fun r hr => okT_C (hrs r hr).1) h9 (Or.inl rfl) rows [] none 0 0 rfl ⟨Or.inl ⟨rfl, rfl⟩, ⟨by omega, by omega⟩⟩ ?_
      · rw [show s + (([] : List aR).length : Int) = s by simp] at this; exact this
      · intro x10 x13 hen
        rw [hnk] at hen
        rcases hen with ⟨⟨y, -⟩ | ⟨-, y⟩, -⟩
        · subst y
          refine t_test_61 hs ⟨⟨⟨by omega, by omega⟩, ⟨by omega, by omega⟩⟩, fun _ => ⟨⟨by omega, by omega⟩, fun _ => ?_, fun c => absurd rfl c⟩, fun c => absurd (by omega) c⟩
          exact t_test_40 hs ⟨⟨by omega, by omega⟩, fun _ => tailB M _ (by exact ⟨by omega, by omega⟩) hfr a35 a42 a45 t0 t1, fun c => absurd rfl c⟩
        · cases y
    | cons key rm ih =>
      intro dn M x9 hdr hin hfr a31 a33 a35 a42 a45 t0 t1 hL1 hL2 h9
      have st1 : stt D M := frQ_stt hfr hst
      have hnm := frQ_rows b3.1 hn hfr a31 a33
      have hok : okB D M s w cb col lst := okB_of gp st1 hb (fun k h0 h1 => by rw [hfr 87 _ ⟨by omega, by omega, by omega, by omega, by omega, by omega, by omega, by omega, by omega⟩ (by omega)]; exact h87 k h0 h1)
      have hnk := nk_kys (D := D) (at_ := at_) (L := fun y => ¬ (0 : Int) = 0 ∨ x9 < y) (rows := rows) (dn := dn) (rm := key :: rm) (by rw [← hks]; exact hdr) hL1 hL2
      have hdl : dn.length + rm.length + 1 = ks.length := by rw [hdr, List.length_append, List.length_cons]; omega
      refine t_test_40 hs ⟨⟨by omega, by omega⟩, fun c => absurd c (by omega), fun _ => ⟨by rw [a45]; exact ⟨by omega, by omega⟩, fun c => absurd a45 c, fun _ => ?_⟩⟩
      have := s_key (e := e) (d := d1 + 2) (D := D) (M := M) (s := s) (w := w) (cb := cb) (lst := lst) (at_ := at_) (q := col at_) (ty := E 88 (col at_)) (x8 := dn.length) (x9 := x9) (x11 := 0) (x12 := 1) (col := col) (rows := rows) (Q := Q) hs hok hnm hlen hat (fun r hr => okT_C (hrs r hr).1) h9 (Or.inl rfl) rows [] none 0 0 rfl ⟨Or.inl ⟨rfl, rfl⟩, ⟨by omega, by omega⟩⟩ ?_
      · rw [show s + (([] : List aR).length : Int) = s by simp] at this; exact this
      · intro x10 x13 hen
        rw [hnk] at hen
        rcases hen with ⟨⟨-, y⟩ | ⟨y1, y⟩, hr13⟩
        · cases y
        · have y : key = x13 := Option.some.inj y
          subst y
          subst y1
          have e44' : M 59 44 = 1 := by rw [st1 59 44 (by omega)]; exact h44
          have e93' : M 93 (col at_) = va (col at_) := by rw [hfr 93 _ ⟨by omega, by omega, by omega, by omega, by omega, by omega, by omega, by omega, by omega⟩ (by omega)]; exact e93
          have e65' : M 65 = D 65 := stt_c st1 65 (by omega)
          have hdr2 : ks = (dn ++ [key]) ++ rm := by rw [hdr]; simp
          have ord2 := hord
          rw [hdr2] at ord2
          have ord3 := List.pairwise_append.mp ord2
          have ord4 := List.pairwise_append.mp ord3.1
          have hneq : hd0 < key := ord4.2.2 hd0 hin key (by simp)
          have hcn : ((dn ++ [key]).length : Int) = (dn.length : Int) + 1 := by rw [List.length_append, List.length_singleton]; omega
          refine t_test_61 hs ⟨⟨⟨by omega, by omega⟩, ⟨by omega, by omega⟩⟩, fun _ => ⟨⟨by omega, by omega⟩, fun c => absurd c (by omega), fun _ => ⟨by rw [e44']; exact ⟨by omega, by omega⟩, fun c => absurd c (by omega), fun _ => ⟨by omega, by rw [e93']; omega, ⟨by rw [e93', e65', ← hhd]; exact hh1, hr13⟩, fun _ => ?_, fun c => absurd (by rw [e93', e65', ← hhd]; omega) c⟩⟩⟩, fun c => absurd (by omega) c⟩
          have := ih (dn ++ [key]) M key hdr2 (by simp [hin]) hfr a31 a33 a35 a42 a45 t0 t1 ?_ ?_ hr13
          · rw [hcn] at this; exact this
          · rintro y hy (z2 | z2)
            · exact z2 rfl
            · rcases List.mem_append.mp hy with y2 | y2
              · have := ord4.2.2 y y2 key (by simp)
                omega
              · simp at y2; omega
          · intro y hy
            exact Or.inr (ord3.2.2 key (by simp) y hy)
  -- the heads up to it
  have loopA : ∀ (rm dn : List Int) (x9 x11 : Int), ks = dn ++ rm → hd0 ∉ dn → (∀ y, y ∈ dn → ¬ (¬ x11 = 0 ∨ x9 < y)) → (∀ y, y ∈ rm → (¬ x11 = 0 ∨ x9 < y)) → rg x9 → (x11 = 0 ∨ x11 = 1) → R_test_40 e (d1 + 3) s at_ lst w (col at_) (E 88 (col at_)) (s + rows.length) dn.length x9 1 x11 0 M0 Q := by
    intro rm
    induction rm with
    | nil =>
      intro dn x9 x11 hdr hin hL1 hL2 h9 h11
      have hnk := nk_kys (D := D) (at_ := at_) (L := fun y => ¬ x11 = 0 ∨ x9 < y) (rows := rows) (dn := dn) (rm := []) (by rw [← hks]; exact hdr) hL1 hL2
      have hdl : dn.length = ks.length := by rw [hdr, List.append_nil]
      refine t_test_40 hs ⟨⟨by omega, by omega⟩, fun c => absurd c (by omega), fun _ => ⟨by rw [h45]; exact ⟨by omega, by omega⟩, fun c => absurd h45 c, fun _ => ?_⟩⟩
      have := s_key (e := e) (d := d1 + 2) (D := D) (M := M0) (s := s) (w := w) (cb := cb) (lst := lst) (at_ := at_) (q := col at_) (ty := E 88 (col at_)) (x8 := dn.length) (x9 := x9) (x11 := x11) (x12 := 0) (col := col) (rows := rows) (Q := Q) hs hok0 hn hlen hat (fun r hr => okT_C (hrs r hr).1) h9 h11 rows [] none 0 0 rfl ⟨Or.inl ⟨rfl, rfl⟩, ⟨by omega, by omega⟩⟩ ?_
      · rw [show s + (([] : List aR).length : Int) = s by simp] at this; exact this
      · intro x10 x13 hen
        rw [hnk] at hen
        rcases hen with ⟨⟨y, -⟩ | ⟨-, y⟩, -⟩
        · subst y
          refine t_test_61 hs ⟨⟨⟨by omega, by omega⟩, ⟨by omega, by omega⟩⟩, fun _ => ⟨⟨by omega, by omega⟩, fun _ => ?_, fun c => absurd rfl c⟩, fun c => absurd (by omega) c⟩
          rw [hdl]
          exact t_test_40 hs ⟨⟨by omega, by omega⟩, fun _ => tailA (by rw [hdr, List.append_nil]; exact hin), fun c => absurd rfl c⟩
        · cases y
    | cons key rm ih =>
      intro dn x9 x11 hdr hin hL1 hL2 h9 h11
      have hnk := nk_kys (D := D) (at_ := at_) (L := fun y => ¬ x11 = 0 ∨ x9 < y) (rows := rows) (dn := dn) (rm := key :: rm) (by rw [← hks]; exact hdr) hL1 hL2
      have hdl : dn.length + rm.length + 1 = ks.length := by rw [hdr, List.length_append, List.length_cons]; omega
      refine t_test_40 hs ⟨⟨by omega, by omega⟩, fun c => absurd c (by omega), fun _ => ⟨by rw [h45]; exact ⟨by omega, by omega⟩, fun c => absurd h45 c, fun _ => ?_⟩⟩
      have := s_key (e := e) (d := d1 + 2) (D := D) (M := M0) (s := s) (w := w) (cb := cb) (lst := lst) (at_ := at_) (q := col at_) (ty := E 88 (col at_)) (x8 := dn.length) (x9 := x9) (x11 := x11) (x12 := 0) (col := col) (rows := rows) (Q := Q) hs hok0 hn hlen hat (fun r hr => okT_C (hrs r hr).1) h9 h11 rows [] none 0 0 rfl ⟨Or.inl ⟨rfl, rfl⟩, ⟨by omega, by omega⟩⟩ ?_
      · rw [show s + (([] : List aR).length : Int) = s by simp] at this; exact this
      · intro x10 x13 hen
        rw [hnk] at hen
        rcases hen with ⟨⟨-, y⟩ | ⟨y1, y⟩, hr13⟩
        · cases y
        · have y : key = x13 := Option.some.inj y
          subst y
          subst y1
          have hdr2 : ks = (dn ++ [key]) ++ rm := by rw [hdr]; simp
          have ord2 := hord
          rw [hdr2] at ord2
          have ord3 := List.pairwise_append.mp ord2
          have ord4 := List.pairwise_append.mp ord3.1
          have hcn : ((dn ++ [key]).length : Int) = (dn.length : Int) + 1 := by rw [List.length_append, List.length_singleton]; omega
          have hL3 : ∀ y, y ∈ dn ++ [key] → ¬ (¬ (0 : Int) = 0 ∨ key < y) := by
            rintro y hy (z2 | z2)
            · exact z2 rfl
            · rcases List.mem_append.mp hy with y2 | y2
              · have := ord4.2.2 y y2 key (by simp)
                omega
              · simp at y2; omega
          have hL4 : ∀ y, y ∈ rm → (¬ (0 : Int) = 0 ∨ key < y) := fun y hy => Or.inr (ord3.2.2 key (by simp) y hy)
          refine t_test_61 hs ⟨⟨⟨by omega, by omega⟩, ⟨by omega, by omega⟩⟩, fun _ => ⟨⟨by omega, by omega⟩, fun c => absurd c (by omega), fun _ => ⟨by rw [e44]; exact ⟨by omega, by omega⟩, fun c => absurd c (by omega), fun _ => ⟨by omega, by rw [e93]; omega, ⟨by rw [e93, e65, ← hhd]; exact hh1, hr13⟩, fun c => ?_, fun c => ?_⟩⟩⟩, fun c => absurd (by omega) c⟩
          · rw [e93, e65, ← hhd] at c
            have := ih (dn ++ [key]) key 0 hdr2 (by simp; exact ⟨hin, c⟩) hL3 hL4 hr13 (Or.inl rfl)
            rw [hcn] at this; exact this
          · rw [e93, e65, ← hhd] at c
            have c : hd0 = key := Classical.not_not.mp c
            obtain ⟨r, hr1, hr2, hr3⟩ := (hmem key).mp (by rw [hdr]; simp)
            have hkk : okK D (E 88 (col at_)) key false := by rw [← hr3]; exact okK_of gp (hrs r hr1).1 hat (hne r hr1) hr2
            refine t_test_185 hs (brn key false (vaN D va np (col at_)) _ hkk hr13 (by rw [hT, hdr]; simp) (fun m hm => ⟨valOK_N gv gt hm hval hca.1 (by rw [← hhd]; exact c), fun x x0 x1 => by unfold vaN; rw [if_neg (by omega)], fun j h0 h1 => by unfold vaN; rw [if_pos (by omega), show np + j - np = j by omega]⟩) (by rw [← c]; exact ht1 (by rw [hdr, c]; simp)) ?_)
            intro M3 fr3 c31 c33 c35 c42 c45 t0 t1
            have := loopB rm (dn ++ [key]) M3 key hdr2 (by simp [c]) fr3 c31 c33 c35 c42 c45 t0 t1 hL3 hL4 hr13
            rw [hcn] at this; exact this
  refine t_test (t_test_0 hs ?_)
  rw [h87 at_ hat.1 hat.2, p1, hn.1]
  refine ⟨by omega, by omega, ?_⟩
  exact loopA ks [] (-1) 1 rfl (by simp) (fun y hy => by cases hy) (fun y _ => Or.inl (by omega)) (by exact ⟨by omega, by omega⟩) (Or.inr rfl)
end RFL2
