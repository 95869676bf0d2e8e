/-! ===== the reference: a test, and every node ===== -/
section RTS
variable {e : yE} {D E : xM} {s w cb lst lh np : Int} {col : Int → Int}
theorem s_test {n d : Nat} {σ M0 : xM} {Q : xM → Prop} {rows : List aR} {at_ : Int} (hs : RSh e) (hg : gOK D) (h44 : D 59 44 = 0) (IH : ∀ k, k < n + 1 → NodeOK e D k) (hd : 3 * n + 432 ≤ d) (hst : stt D M0) (hn : ndR M0 s w cb rows) (h87 : ∀ k, 0 ≤ k → k < w → M0 87 (lst + k) = col k) (h42 : M0 59 42 = np) (h35 : M0 59 35 = lh) (hp : plc M0 np E) (hb : bnd (120 - (n + 1 : Nat)) s w cb lst lh np) (hwf : wfN D w col np E rows) (hE : okE D np E) (hwd : D 75 (D 59 43) ≤ np) (hat : 0 ≤ at_ ∧ at_ < w) (hne : ∀ q ∈ rows, ¬ (0 ≤ q.2.1 at_ ∧ D 68 (q.2.1 at_) = 4)) (h45 : M0 59 45 = 0) (hag : agA σ M0) (h46 : σ 59 46 = 120 - n) (h48 : σ 59 48 = 0 ∨ σ 59 48 = 1)
    (h : ∀ M', frN s cb lh np E M0 M' → M' 59 35 = lh → M' 59 42 = np → altL D (D 59 43) n (chT D w col np E at_ rows) σ M' → Q M') : R_test e d s at_ lst w M0 Q := by
  have hb' := hb
  obtain ⟨b1, b2, b3, b4, b5, b6⟩ := hb'
  obtain ⟨d1, rfl⟩ : ∃ d1, d = d1 + 4 := ⟨d - 4, by omega⟩
  have hg' := hg
  obtain ⟨gp, gt, gv, g43, g75, g79⟩ := hg'
  have hlen := hwf.2.2
  have hca := hwf.1.2.2.1 at_ hat.1 hat.2
  have hrs := hwf.2.1
  obtain ⟨p1, p2, p3⟩ := hp _ hca.1.1 hca.1.2
  have hmul := mul_0 (i := rows.length) (w := w) b3.1
  have hty8 := gt.1
  obtain ⟨ks, hks⟩ : ∃ ks, ks = kys D at_ rows [] := ⟨_, rfl⟩
  have hkl := kys_len (D := D) (at_ := at_) rows []
  rw [← hks, List.length_nil] at hkl
  have hmem : ∀ y, y ∈ ks ↔ ∃ r ∈ rows, 0 ≤ r.2.1 at_ ∧ D 70 (r.2.1 at_) = y := by
    intro y; rw [hks, kys_mem]; simp
  have hord : ks.Pairwise (· < ·) := by rw [hks]; exact kys_ord rows [] List.Pairwise.nil
  obtain ⟨ch, hch⟩ : ∃ ch : Int → aN, ch = fun k => chB D w col np E at_ rows k false := ⟨_, rfl⟩
  have hT : chT D w col np E at_ rows = ks.map ch ++ (if E 88 (col at_) = 0 ∨ (ks.length : Int) < D 60 (E 88 (col at_)) then [chB D w col np E at_ rows (lA ks 0) true] else []) := by
    unfold chT; rw [← hks, hch]
  -- the end
  have fin : ∀ M, frQ (s + rows.length) (cb + (rows.length : Int) * w) lh np E (col at_) M0 M → M 59 35 = lh → M 59 42 = np → altL D (D 59 43) n (chT D w col np E at_ rows) σ M → (0 ≤ col at_ ∧ col at_ < 1000) ∧ ∀ M1 : xM, M1 = xup M 89 (col at_) 0 → Q M1 := by
    intro M hfr a35 a42 alt
    refine ⟨by omega, fun M1 e1 => ?_⟩
    rw [e1]
    refine h _ ?_ (by rw [xrd (by decide)]; exact a35) (by rw [xrd (by decide)]; exact a42) ?_
    · intro c i k
      rw [xup_ap]
      by_cases hc : c = 89 ∧ i = col at_
      · rw [if_pos hc, hc.1, hc.2, p2]; exact hca.2.1.symm
      · rw [if_neg hc]
        exact hfr c i (kpN_mono k (by omega) (by omega) (Int.le_refl _) (Int.le_refl _) (fun z _ => z)) (fun z zi => hc ⟨z, zi⟩)
    · rcases alt with z | ⟨z1, evs, z2, z3, z4⟩
      · exact Or.inl ⟨by rw [xrd (by decide)]; exact z.1, z.2⟩
      · refine Or.inr ⟨by rw [xrd (by decide)]; exact z1, evs, z2, ?_, z4⟩
        exact agA_no z3 (by unfold acC; omega)
  -- rows stand as they stood
  have hnM : ∀ M, frQ (s + rows.length) (cb + (rows.length : Int) * w) lh np E (col at_) M0 M → M 59 31 = s + rows.length → M 59 33 = cb + (rows.length : Int) * w → ndR M s w cb rows ∧ okB D M s w cb col lst := by
    intro M hfr a31 a33
    have hrow : ∀ c i, c = 83 ∨ c = 84 ∨ c = 85 ∨ c = 86 → (c = 83 ∨ c = 84 → i < s + rows.length) → (c = 85 → i < 16 * (s + rows.length)) → (c = 86 → i < cb + (rows.length : Int) * w) → M c i = M0 c i := by
      intro c i hc h1 h2 h3
      exact hfr c i ⟨by omega, h1, h2, h3, by omega, by omega, by omega, by omega, by omega⟩ (by omega)
    refine ⟨⟨a31, a33, fun i hi => ?_, fun i q hq => ?_⟩, okB_of gp (frQ_stt hfr hst) hb (fun k h0 h1 => ?_)⟩
    · rw [hrow 84 _ (by omega) (by omega) (by omega) (by omega)]; exact hn.2.2.1 i hi
    · have hi : i < rows.length := by
        rcases Nat.lt_or_ge i rows.length with h | h
        · exact h
        · rw [List.getElem?_eq_none h] at hq; cases hq
      obtain ⟨u1, u2, u3⟩ := hn.2.2.2 i q hq
      have u4 := hn.2.2.1 i hi
      have hm4 := mul_st (i := i) (j := rows.length) (w := w) hi b3.1
      refine ⟨by rw [hrow 83 _ (by omega) (by omega) (by omega) (by omega)]; exact u1, fun k h0 h1 => ?_, fun a h0 h1 => ?_⟩
      · rw [hrow 84 _ (by omega) (by omega) (by omega) (by omega), hrow 86 _ (by omega) (by omega) (by omega) (by omega)]; exact u2 k h0 h1
      · rw [hrow 85 _ (by omega) (by omega) (by omega) (by omega)]; exact u3 a h0 h1
    · rw [hfr 87 _ ⟨by omega, by omega, by omega, by omega, by omega, by omega, by omega, by omega, by omega⟩ (by omega)]; exact h87 k h0 h1
  -- behind the heads
  have tail : ∀ (M : xM) (x8 x12 : Int) (dn rm : List Int), ks = dn ++ rm → frQ (s + rows.length) (cb + (rows.length : Int) * w) lh np E (col at_) M0 M → M 59 31 = s + rows.length → M 59 33 = cb + (rows.length : Int) * w → M 59 35 = lh → M 59 42 = np → altL D (D 59 43) n (dn.map ch) σ M → rg x8 → (M 59 45 = 0 → rm = [] ∧ x8 = ks.length) → R_test_205 e (d1 + 3) s at_ lst w (col at_) (E 88 (col at_)) (s + rows.length) x8 x12 M Q := by
    intro M x8 x12 dn rm hdr hfr a31 a33 a35 a42 alt h8 h0
    have st1 : stt D M := frQ_stt hfr hst
    have over : M 59 45 = 1 → altL D (D 59 43) n (chT D w col np E at_ rows) σ M := by
      intro z
      rw [hT, hdr, List.map_append, List.append_assoc]
      exact altL_over alt z z
    have h222 : (M 59 45 = 0 → E 88 (col at_) = 0 ∨ (ks.length : Int) < D 60 (E 88 (col at_))) → R_test_222 e (d1 + 3) s at_ lst w (col at_) (s + rows.length) x12 M Q := by
      intro more
      refine t_test_222 hs ⟨by rcases altL_45 alt with z | z <;> (rw [z]; exact ⟨by omega, by omega⟩), fun z => ?_, fun z => ?_⟩
      · exact fin M hfr a35 a42 (over ((altL_45 alt).resolve_left z))
      · have z : M 59 45 = 0 := Classical.not_not.mp z
        obtain ⟨hrm, h8e⟩ := h0 z
        have mo := more z
        have hdn : ks = dn := by rw [hdr, hrm, List.append_nil]
        have e44 : M 59 44 = 0 := by rw [st1 59 44 (by omega)]; exact h44
        rw [e44]
        refine ⟨⟨by omega, by omega⟩, fun _ => ?_, fun y => absurd rfl y⟩
        obtain ⟨hnm, hok⟩ := hnM M hfr a31 a33
        refine t_test_241 hs (s_leastOther (D := D) (cb := cb) (w := w) (col := col) (lst := lst) hs hok hnm hlen hat (fun r hr => okT_C (hrs r hr).1) ?_)
        rw [← hks]
        have l3 := lA_ge ks 0
        have l4 := lA_le ks 0
        rcases alt with alt | ⟨-, evs, v1, v2, v3, v4, v5⟩
        · rw [alt.1] at z; omega
        · have := s_brT (e := e) (D := D) (E := E) (n := n + 1) (k := n - evs.length) (d := d1 + 3) (M0 := M0) (M := M) (rows := rows) (s := s) (w := w) (cb := cb) (lst := lst) (lh := lh) (np := np) (col := col) (at_ := at_) (key := lA ks 0) (oth := true) (σ := evs.foldl (app D (D 59 43)) σ) (Q := fun M3 => (0 ≤ col at_ ∧ col at_ < 1000) ∧ ∀ M4 : xM, M4 = xup M3 89 (col at_) 0 → Q M4) hs hg h44 IH (by omega) (by omega) hst hn h87 hp hb hwf hE hwd hat hne (fun z => by cases z) (fun z => ?_) (by exact ⟨by omega, by omega⟩) hfr a31 a33 a35 a42 z v2 (by rw [v3]; omega) v4 ?_
          · exact this
          · rcases mo with mo | mo
            · omega
            · exact ⟨l3, by omega⟩
          · intro M3 fr3 c31 c33 c35 c42 alt3
            refine fin M3 fr3 c35 c42 ?_
            rw [hT, if_pos mo]
            refine altL_snoc v1 v3 ?_ alt3
            rw [hdn]; exact v5
    refine t_test_205 hs ⟨by exact ⟨by omega, by omega⟩, fun c => h222 (fun _ => Or.inl c), fun c => ⟨by omega, ?_⟩⟩
    have e60 : M 60 (E 88 (col at_)) = D 60 (E 88 (col at_)) := st1 60 _ (by omega)
    have h60 := gt.2.1 (E 88 (col at_)) (by omega) (by omega)
    rw [e60]
    refine ⟨⟨h8, ⟨by omega, by omega⟩⟩, fun c2 => fin M hfr a35 a42 ?_, fun c2 => h222 (fun z => Or.inr ?_)⟩
    · rcases altL_45 alt with z | z
      · obtain ⟨hrm, h8e⟩ := h0 z
        rw [hT, if_neg (by rintro (y | y); exact c y; omega), List.append_nil, hdr, hrm, List.append_nil]
        exact alt
      · exact over z
    · obtain ⟨hrm, h8e⟩ := h0 z
      omega
  -- the heads, one after the other
  have loop : ∀ (rm dn : List Int) (M : xM) (x9 x11 x12 : Int), ks = dn ++ rm → frQ (s + rows.length) (cb + (rows.length : Int) * w) lh np E (col at_) M0 M → M 59 31 = s + rows.length → M 59 33 = cb + (rows.length : Int) * w → M 59 35 = lh → M 59 42 = np → altL D (D 59 43) n (dn.map ch) σ M → M 59 45 = 0 → (∀ y, y ∈ dn → ¬ (¬ x11 = 0 ∨ x9 < y)) → (∀ y, y ∈ rm → (¬ x11 = 0 ∨ x9 < y)) → rg x9 → (x11 = 0 ∨ x11 = 1) → R_test_40 e (d1 + 3) s at_ lst w (col at_) (E 88 (col at_)) (s + rows.length) dn.length x9 1 x11 x12 M Q := by
    intro rm
    induction rm with
    | nil =>
      intro dn M x9 x11 x12 hdr hfr a31 a33 a35 a42 alt z45 hL1 hL2 h9 h11
      obtain ⟨hnm, hok⟩ := hnM M hfr a31 a33
      have hnk := nk_kys (D := D) (at_ := at_) (L := fun y => ¬ x11 = 0 ∨ x9 < y) (rows := rows) (dn := dn) (rm := []) (by rw [← hks]; exact hdr) hL1 hL2
      have hdl : dn.length = ks.length := by rw [hdr, List.append_nil]
      refine t_test_40 hs ⟨⟨by omega, by omega⟩, fun c => absurd c (by omega), fun _ => ⟨by rw [z45]; exact ⟨by omega, by omega⟩, fun c => absurd z45 c, fun _ => ?_⟩⟩
      have := s_key (e := e) (d := d1 + 2) (D := D) (M := M) (s := s) (w := w) (cb := cb) (lst := lst) (at_ := at_) (q := col at_) (ty := E 88 (col at_)) (x8 := dn.length) (x9 := x9) (x11 := x11) (x12 := x12) (col := col) (rows := rows) (Q := Q) hs hok hnm hlen hat (fun r hr => okT_C (hrs r hr).1) h9 h11 rows [] none 0 0 rfl ⟨Or.inl ⟨rfl, rfl⟩, ⟨by omega, by omega⟩⟩ ?_
      · rw [show s + (([] : List aR).length : Int) = s by simp] at this; exact this
      · intro x10 x13 hen
        rw [hnk] at hen
        rcases hen with ⟨⟨y, -⟩ | ⟨-, y⟩, -⟩
        · subst y
          refine t_test_61 hs ⟨⟨⟨by omega, by omega⟩, ⟨by omega, by omega⟩⟩, fun _ => ⟨⟨by omega, by omega⟩, fun _ => ?_, fun c => absurd rfl c⟩, fun c => absurd (by omega) c⟩
          exact t_test_40 hs ⟨⟨by omega, by omega⟩, fun _ => tail M _ _ dn [] hdr hfr a31 a33 a35 a42 alt (by exact ⟨by omega, by omega⟩) (fun _ => ⟨rfl, by omega⟩), fun c => absurd rfl c⟩
        · cases y
    | cons key rm ih =>
      intro dn M x9 x11 x12 hdr hfr a31 a33 a35 a42 alt z45 hL1 hL2 h9 h11
      obtain ⟨hnm, hok⟩ := hnM M hfr a31 a33
      have st1 : stt D M := frQ_stt hfr hst
      have hnk := nk_kys (D := D) (at_ := at_) (L := fun y => ¬ x11 = 0 ∨ x9 < y) (rows := rows) (dn := dn) (rm := key :: rm) (by rw [← hks]; exact hdr) hL1 hL2
      have hdl : dn.length + rm.length + 1 = ks.length := by rw [hdr, List.length_append, List.length_cons]; omega
      refine t_test_40 hs ⟨⟨by omega, by omega⟩, fun c => absurd c (by omega), fun _ => ⟨by rw [z45]; exact ⟨by omega, by omega⟩, fun c => absurd z45 c, fun _ => ?_⟩⟩
      have := s_key (e := e) (d := d1 + 2) (D := D) (M := M) (s := s) (w := w) (cb := cb) (lst := lst) (at_ := at_) (q := col at_) (ty := E 88 (col at_)) (x8 := dn.length) (x9 := x9) (x11 := x11) (x12 := x12) (col := col) (rows := rows) (Q := Q) hs hok hnm hlen hat (fun r hr => okT_C (hrs r hr).1) h9 h11 rows [] none 0 0 rfl ⟨Or.inl ⟨rfl, rfl⟩, ⟨by omega, by omega⟩⟩ ?_
      · rw [show s + (([] : List aR).length : Int) = s by simp] at this; exact this
      · intro x10 x13 hen
        rw [hnk] at hen
        rcases hen with ⟨⟨-, y⟩ | ⟨y1, y⟩, hr13⟩
        · cases y
        · have y : key = x13 := Option.some.inj y
          subst y
          subst y1
          have e44 : M 59 44 = 0 := by rw [st1 59 44 (by omega)]; exact h44
          refine t_test_61 hs ⟨⟨⟨by omega, by omega⟩, ⟨by omega, by omega⟩⟩, fun _ => ⟨⟨by omega, by omega⟩, fun c => absurd c (by omega), fun _ => ⟨by rw [e44]; exact ⟨by omega, by omega⟩, fun _ => ?_, fun c => absurd e44 c⟩⟩, fun c => absurd (by omega) c⟩
          obtain ⟨r, hr1, hr2, hr3⟩ := (hmem key).mp (by rw [hdr]; simp)
          have hkk : okK D (E 88 (col at_)) key false := by rw [← hr3]; exact okK_of gp (hrs r hr1).1 hat (hne r hr1) hr2
          rcases alt with alt | ⟨-, evs, v1, v2, v3, v4, v5⟩
          · rw [alt.1] at z45; omega
          · refine t_test_185 hs ?_
            refine s_brT (e := e) (D := D) (E := E) (n := n + 1) (k := n - evs.length) (d := d1 + 3) (M0 := M0) (M := M) (rows := rows) (s := s) (w := w) (cb := cb) (lst := lst) (lh := lh) (np := np) (col := col) (at_ := at_) (key := key) (oth := false) (σ := evs.foldl (app D (D 59 43)) σ) hs hg h44 IH (by omega) (by omega) hst hn h87 hp hb hwf hE hwd hat hne hkk (fun z => hkk rfl (by omega)) hr13 hfr a31 a33 a35 a42 z45 v2 (by rw [v3]; omega) v4 ?_
            intro M3 fr3 c31 c33 c35 c42 alt3
            have alt4 : altL D (D 59 43) n ((dn ++ [key]).map ch) σ M3 := by
              rw [List.map_append]
              refine altL_snoc v1 v3 v5 ?_
              rw [hch]; exact alt3
            have hdr2 : ks = (dn ++ [key]) ++ rm := by rw [hdr]; simp
            have hcn : ((dn ++ [key]).length : Int) = (dn.length : Int) + 1 := by rw [List.length_append, List.length_singleton]; omega
            rcases altL_45 alt4 with z | z
            · have ord2 := hord
              rw [hdr2] at ord2
              have ord3 := List.pairwise_append.mp ord2
              have := ih (dn ++ [key]) M3 key 0 1 hdr2 fr3 c31 c33 c35 c42 alt4 z ?_ ?_ hr13 (Or.inl rfl)
              · rw [hcn] at this; exact this
              · rintro y hy (z2 | z2)
                · exact z2 rfl
                · rcases List.mem_append.mp hy with y2 | y2
                  · have := (List.pairwise_append.mp ord3.1).2.2 y y2 key (by simp)
                    omega
                  · simp at y2; omega
              · intro y hy
                exact Or.inr (ord3.2.2 key (by simp) y hy)
            · refine t_test_40 hs ⟨⟨by omega, by omega⟩, fun c => absurd c (by omega), fun _ => ⟨by rw [z]; exact ⟨by omega, by omega⟩, fun _ => ?_, fun c => absurd (by omega) c⟩⟩
              exact tail M3 _ _ (dn ++ [key]) rm hdr2 fr3 c31 c33 c35 c42 alt4 (by exact ⟨by omega, by omega⟩) (fun y => by omega)
  have fr0 : frQ (s + rows.length) (cb + (rows.length : Int) * w) lh np E (col at_) M0 M0 := fun _ _ _ _ => rfl
  refine t_test (t_test_0 hs ?_)
  rw [h87 at_ hat.1 hat.2, p1, hn.1]
  refine ⟨by omega, by omega, ?_⟩
  exact loop ks [] M0 (-1) 1 0 rfl fr0 hn.1 hn.2.1 h35 h42 (altL_nil h45 hag h48) h45 (fun y hy => by cases hy) (fun y _ => Or.inl (by omega)) (by exact ⟨by omega, by omega⟩) (Or.inr rfl)
/-- every node -/
theorem s_node (hs : RSh e) (hg : gOK D) (h44 : D 59 44 = 0) : ∀ n : Nat, NodeOK e D n := by
  intro n
  induction n using Nat.strongRecOn with
  | ind n IH =>
    intro d s cb lst lh w col np E rows σ M Q hd hst hn h87 h42 h35 hp hb hwf hE hwd h45 hag h46 h48 h
    have hb' := hb
    obtain ⟨b1, b2, b3, b4, b5, b6⟩ := hb'
    obtain ⟨d1, rfl⟩ : ∃ d1, d = d1 + 4 := ⟨d - 4, by omega⟩
    have hg' := hg
    obtain ⟨gp, gt, gv, g43, g75, g79⟩ := hg'
    have hlen := hwf.2.2
    have hok := okB_of gp hst hb h87
    have h46' : M 59 46 = 120 - n := by rw [hag 59 46 (Or.inr (Or.inl ⟨rfl, by omega⟩))]; exact h46
    -- the end
    have fin : ∀ M', frN s cb lh np E M M' → M' 59 35 = lh → M' 59 42 = np → altL D (D 59 43) n [(w, col, np, E, rows)] σ M' → R_node_182 e (d1 + 3) s cb M' Q := by
      intro M' hfr a35 a42 alt
      refine t_node_182 hs (fun M1 e1 M2 e2 => ?_)
      rw [e2, e1]
      refine h _ (frN_up (frN_up hfr (nk_59 (by omega))) (nk_59 (by omega))) (by rw [xri (by decide), xrs]) xrs (by rw [xri (by decide), xri (by decide)]; exact a35) (by rw [xri (by decide), xri (by decide)]; exact a42) ?_
      rcases alt with z | ⟨z1, evs, z2, z3, z4⟩
      · exact Or.inl ⟨by rw [xri (by decide), xri (by decide)]; exact z.1, z.2⟩
      · refine Or.inr ⟨by rw [xri (by decide), xri (by decide)]; exact z1, evs, z2, ?_, z4⟩
        exact agA_no (agA_no z3 (by unfold acC; omega)) (by unfold acC; omega)
    have alt0 : ∀ M' : xM, M' 59 45 = 1 → shp D w col rows = none → altL D (D 59 43) n [(w, col, np, E, rows)] σ M' := fun M' z y => Or.inl ⟨z, fun rest => fin_over y⟩
    have main : R_node_35 e (d1 + 3) s lst w cb (fA w rows) M Q := by
      refine s_nF (D := D) (cb := cb) (col := col) hs 25 M rows hok hn hlen (by omega) (fun q hq => okT_C (hwf.2.1 q hq).1) h45 (fun hF M' a hfr => ?_) (fun rows' hF M' hfr hn' hc' hl' => ?_)
      · have hshp : shp D w col rows = none := by unfold shp; rw [hF]
        refine t_node_78 hs ⟨by rw [xrs]; exact ⟨by omega, by omega⟩, fun _ => ?_, fun c => absurd (by rw [xrs]; omega) c⟩
        exact fin _ (frN_up (frS_N hfr) (nk_59 (by omega))) (by rw [xri (by decide), frS_o hfr 35 (by omega)]; exact h35) (by rw [xri (by decide), frS_o hfr 42 (by omega)]; exact h42) (alt0 _ xrs hshp)
      · -- the rows stand
        have st1 : stt D M' := frN_stt (frS_N (lh := lh) (np := np) (E := E) hfr) hst
        have f45 : M' 59 45 = 0 := by rw [frS_o hfr 45 (by omega)]; exact h45
        have f46 : M' 59 46 = 120 - n := by rw [frS_o hfr 46 (by omega)]; exact h46'
        have f35 : M' 59 35 = lh := by rw [frS_o hfr 35 (by omega)]; exact h35
        have f42 : M' 59 42 = np := by rw [frS_o hfr 42 (by omega)]; exact h42
        have f87 : ∀ k, 0 ≤ k → k < w → M' 87 (lst + k) = col k := fun k h0 h1 => by rw [frS_c hfr 87 (by omega)]; exact h87 k h0 h1
        have fag : ∀ M'', frS s cb M M'' → agA σ M'' := by
          intro M'' hf c i hc
          rw [hf c i (by unfold acC at hc; exact ⟨by omega, by omega, by omega, by omega, by omega⟩)]
          exact hag c i hc
        have fp : ∀ M'', frS s cb M M'' → plc M'' np E := by
          intro M'' hf q q0 q1
          rw [frS_c hf 88 (by omega), frS_c hf 89 (by omega), frS_c hf 90 (by omega), frS_c hf 91 (by omega), frS_c hf 92 (by omega)]
          exact hp q q0 q1
        have h31 := hn'.1
        have hA := fA_is (w := w) (rows := rows') b3.1
        refine t_node_78 hs ⟨by rw [f45]; exact ⟨by omega, by omega⟩, fun c => absurd f45 c, fun _ => ⟨⟨⟨by omega, by omega⟩, ⟨by omega, by omega⟩⟩, fun c => ?_, fun c => ?_⟩⟩
        · cases rows' with
          | nil => exact absurd (by rw [h31]; simp) c
          | cons r rs =>
            have hfa : fA w (r :: rs) = fOp r.2.1 w.toNat 0 := rfl
            refine ⟨by rcases hA with z | z <;> exact ⟨by omega, by omega⟩, fun c2 => ?_, fun c2 => ?_⟩
            · -- a test
              obtain ⟨a, ha⟩ : ∃ a, a = fA w (r :: rs) := ⟨_, rfl⟩
              rw [← ha] at hA c2 ⊢
              have hfo : fOp r.2.1 w.toNat 0 = a := by rw [ha, hfa]
              have hok' := okB_fr hok hfr
              have hsh : shp D w col rows = (nA D col a 50 [] (r :: rs)).map (fun q => (q, a)) := by
                unfold shp
                rw [hF]
                show (if fOp r.2.1 w.toNat 0 < 0 then _ else _) = _
                rw [hfo, if_neg (by omega)]
              have hNA := s_nA (e := e) (d := d1 + 1) (D := D) (s := s) (w := w) (cb := cb) (lst := lst) (at_ := a) (x4 := cb) (col := col) (Q := Q) hs (by omega) 50 M' [] (r :: rs) hok' hn' hl' (by simp at hl' ⊢; omega) hc' f45 (by omega) (fun hN M'' hf2 => ?_) (fun rows2 hN M2 hf2 hn2 hc2 hl2 => ?_)
              · have := hNA.1
                rw [show s + (([] : List aR).length : Int) = s by simp] at this
                exact this
              · rw [hN] at hsh
                have hf3 := frS_trans hfr hf2
                refine fin _ ?_ ?_ ?_ (alt0 _ ?_ hsh)
                · exact frN_up (frN_up (frN_up (frN_up (frS_N hf3) (nk_59 (by omega))) (nk_59 (by omega))) (nk_59 (by omega))) nk_94
                · rw [xrd (by decide), xri (by decide), xri (by decide), xri (by decide), frS_o hf3 35 (by omega)]; exact h35
                · rw [xrd (by decide), xri (by decide), xri (by decide), xri (by decide), frS_o hf3 42 (by omega)]; exact h42
                · rw [xrd (by decide), xri (by decide), xrs]
              · rw [hN] at hsh
                have hsh : shp D w col rows = some (rows2, a) := hsh
                have hf3 := frS_trans hfr hf2
                obtain ⟨wf2, hcase⟩ := wfN_shp gp hwf hsh
                rcases hcase with ⟨z, -⟩ | ⟨hat, hne0, hne2⟩
                · omega
                · have g45 : M2 59 45 = 0 := by rw [frS_o hf2 45 (by omega)]; exact f45
                  have g46 : M2 59 46 = 120 - n := by rw [frS_o hf2 46 (by omega)]; exact f46
                  have g31 := hn2.1
                  refine t_node_118 hs ⟨⟨⟨by omega, by omega⟩, ⟨by omega, by omega⟩⟩, fun _ => s_countNode hs (Or.inl g45) (by omega) (by omega) (fun _ cn => ?_) (fun cn => ?_), fun z => absurd (by omega) z⟩
                  · obtain ⟨n', rfl⟩ : ∃ n', n = n' + 1 := ⟨n - 1, by omega⟩
                    obtain ⟨M3, hM3⟩ : ∃ z : xM, z = xup (xup (xup M2 59 45 0) 59 46 (M2 59 46 + 1)) 94 0 (M2 94 0 + 1) := ⟨_, rfl⟩
                    rw [← hM3]
                    have fr3 : frN s cb lh np E M M3 := by rw [hM3]; exact frN_trans (frS_N hf3) fr_cnt
                    have o3 : ∀ i, i ≠ 45 → i ≠ 46 → M3 59 i = M2 59 i := by
                      intro i h1 h2
                      rw [hM3, xrd (by decide), xri h2, xri h1]
                    have c3 : ∀ c, c ≠ 59 → c ≠ 94 → M3 c = M2 c := by
                      intro c h1 h2
                      rw [hM3, xrd h2, xrd h1, xrd h1]
                    have hev : evt D (D 59 43) E rows2 a = (0, 0, E) := by unfold evt; rw [if_neg (by omega)]
                    have hcd : chd D (D 59 43) w col np E rows2 a = chT D w col np E a rows2 := by unfold chd; rw [if_neg (by omega)]
                    have ag3 : agA (app D (D 59 43) σ (0, 0, E)) M3 := by
                      unfold app
                      rw [if_neg (by show ¬ (0 : Int) = 3; omega), if_pos rfl, hM3]
                      exact agA_cnt (fag M2 hf3) (by omega)
                    refine ⟨⟨by omega, by omega⟩, fun z => absurd z (by omega), fun _ => ?_⟩
                    refine s_test (e := e) (D := D) (E := E) (n := n') (np := np) (cb := cb) (lh := lh) (col := col) (rows := rows2) (σ := app D (D 59 43) σ (0, 0, E)) hs hg h44 (fun k hk => IH k hk) (by omega) (frN_stt fr3 hst) ?_ (fun k h0 h1 => by rw [c3 87 (by decide) (by decide), frS_c hf3 87 (by omega)]; exact h87 k h0 h1) (by rw [o3 42 (by omega) (by omega), frS_o hf3 42 (by omega)]; exact h42) (by rw [o3 35 (by omega) (by omega), frS_o hf3 35 (by omega)]; exact h35) ?_ hb wf2 hE hwd hat hne2 (by rw [hM3, xrd (by decide), xri (by decide), xrs]) ag3 (by rw [app_46 (by show (0 : Int) ≤ 0 ∧ (0 : Int) ≤ 3; omega)]; omega) (app_48 h48) ?_
                    · refine ⟨by rw [o3 31 (by omega) (by omega)]; exact hn2.1, by rw [o3 33 (by omega) (by omega)]; exact hn2.2.1, fun i hi => by rw [c3 84 (by decide) (by decide)]; exact hn2.2.2.1 i hi, fun i q hq => ?_⟩
                      obtain ⟨u1, u2, u3⟩ := hn2.2.2.2 i q hq
                      exact ⟨by rw [c3 83 (by decide) (by decide)]; exact u1, fun k h0 h1 => by rw [c3 84 (by decide) (by decide), c3 86 (by decide) (by decide)]; exact u2 k h0 h1, fun x h0 h1 => by rw [c3 85 (by decide) (by decide)]; exact u3 x h0 h1⟩
                    · intro q q0 q1
                      rw [c3 88 (by decide) (by decide), c3 89 (by decide) (by decide), c3 90 (by decide) (by decide), c3 91 (by decide) (by decide), c3 92 (by decide) (by decide)]
                      exact fp M2 hf3 q q0 q1
                    · intro M4 fr4 c35 c42 alt4
                      exact fin M4 (frN_trans fr3 fr4) c35 c42 (altL_node hsh (by rw [hev, hcd]; exact alt4))
                  · have hn0 : n = 0 := by omega
                    subst hn0
                    refine ⟨⟨by omega, by omega⟩, fun _ => fin _ (frN_trans (frS_N hf3) fr_cnt) ?_ ?_ (Or.inl ⟨?_, fun rest => rfl⟩), fun z => absurd rfl z⟩
                    · rw [xrd (by decide), xri (by decide), xri (by decide), frS_o hf3 35 (by omega)]; exact h35
                    · rw [xrd (by decide), xri (by decide), xri (by decide), frS_o hf3 42 (by omega)]; exact h42
                    · rw [xrd (by decide), xri (by decide), xrs]
            · -- a leaf
              have hsh : shp D w col rows = some (r :: rs, -1) := by
                unfold shp
                rw [hF]
                show (if fOp r.2.1 w.toNat 0 < 0 then _ else _) = _
                rw [if_pos (by rw [← hfa]; omega)]
              obtain ⟨wf2, -⟩ := wfN_shp gp hwf hsh
              refine s_leaf (e := e) (D := D) (E := E) (n := n) (np := np) (cb := cb) (lh := lh) (col := col) (rows := rows) (r := r) (rs := rs) (σ := σ) hs hg h44 IH (by omega) st1 hn' f87 f42 f35 (fp M' hfr) hb wf2 hE hwd f45 (fag M' hfr) h46 h48 hsh ?_
              intro M3 fr3 c35 c42 alt3
              exact fin M3 (frN_trans (frS_N hfr) fr3) c35 c42 alt3
        · -- a failure
          have hr0 : rows' = [] := by
            cases rows' with
            | nil => rfl
            | cons r rs =>
              rw [List.length_cons] at h31
              exact absurd (by omega) c
          subst hr0
          have hsh : shp D w col rows = some ([], -1) := by unfold shp; rw [hF]
          refine s_failure (e := e) (D := D) (E := E) (n := n) (np := np) (s := s) (cb := cb) (lh := lh) (w := w) (col := col) (rows := rows) (σ := σ) hs hg h44 (by omega) st1 f45 (fag M' hfr) (by omega) h46 h48 (fp M' hfr) hE (by omega) hwd hsh ?_
          intro M3 fr3 c31 c33 c35 c42 alt3
          exact fin M3 (frN_trans (frS_N hfr) fr3) (by rw [c35]; exact f35) (by rw [c42]; exact f42) alt3
    have h31 := hn.1
    have h33 := hn.2.1
    have hx4 : M 59 33 - (M 59 31 - s) * w = cb := by
      rw [h31, h33, show s + (rows.length : Int) - s = rows.length by omega]; omega
    refine t_node (t_node_0 hs ⟨⟨⟨by omega, by omega⟩, ⟨by omega, by omega⟩⟩, fun c => ?_, fun c => ?_⟩)
    · rw [hx4]
      have hr0 : rows = [] := by
        cases rows with
        | nil => rfl
        | cons r rs => rw [List.length_cons] at h31; omega
      rw [hr0] at main
      exact main
    · rw [hx4]
      cases rows with
      | nil => exact absurd (by rw [h31]; simp) c
      | cons r rs =>
        have hI := hn.2.2.2 0 r rfl
        rw [show s + ((0 : Nat) : Int) = s by omega] at hI
        have hA := ndR_at hok hn hlen (i := 0) (by simp)
        rw [show s + ((0 : Nat) : Int) = s by omega] at hA
        exact s_firstOpen_R hs hok hA.1 hA.2 hI (okT_C (hwf.2.1 r (by simp)).1) main
end RTS
