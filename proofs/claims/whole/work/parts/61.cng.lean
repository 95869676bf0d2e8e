/-! ===== what comes later does not change a tree ===== -/
/-- the patterns, types and rows that a match speaks of are the same -/
def cng (D D' : xM) (m : Int) : Prop := D 59 18 ≤ D' 59 18 ∧ (∀ p, isP D p → D' 68 p = D 68 p ∧ D' 69 p = D 69 p ∧ D' 70 p = D 70 p ∧ D' 72 p = D 72 p ∧ D' 73 p = D 73 p ∧ ∀ j, 0 ≤ j → j < 3 → D' 71 (3 * p + j) = D 71 (3 * p + j)) ∧ (D' 60 = D 60 ∧ D' 61 = D 61 ∧ D' 62 = D 62 ∧ D' 63 = D 63 ∧ D 59 1 ≤ D' 59 1) ∧ (∀ r, 0 ≤ r → r < 12 → D' 79 (12 * m + r) = D 79 (12 * m + r) ∧ D' 80 (12 * m + r) = D 80 (12 * m + r)) ∧ (D' 75 m = D 75 m ∧ D' 77 m = D 77 m ∧ (∀ k, 0 ≤ k → k < 3 → D' 76 (3 * m + k) = D 76 (3 * m + k)) ∧ ∀ i, 0 ≤ i → i < 36 → D' 78 (36 * m + i) = D 78 (36 * m + i))
section CNG
variable {D D' E : xM} {m w np at_ : Int} {col : Int → Int} {rows : List aR}
theorem prt_c (h : cng D D' m) {p j : Int} (hp : isP D p) (j0 : 0 ≤ j) (j1 : j < 3) : prt D' p j = prt D p j := (h.2.1 p hp).2.2.2.2.2 j j0 j1
theorem lft_c (hw : wfP D) (h : cng D D' m) : ∀ (n : Nat) (p : Int), (isP D p ∨ p < 0) → lft D' n p = lft D n p := by
  intro n
  induction n with
  | zero => intro p _; rfl
  | succ n ih =>
    intro p hp
    unfold lft
    rcases hp with hp | hp
    · have hp0 := hp.1
      rw [if_neg (show ¬ p < 0 by omega), if_neg (show ¬ p < 0 by omega), (h.2.1 p hp).1]
      by_cases h3 : D 68 p = 3
      · rw [if_pos h3, if_pos h3, prt_0 (D := D'), prt_0 (D := D), prt_c h hp (by omega) (by omega)]
        exact ih _ (Or.inl ((hw.2 p hp).2.2.2.2.2.2.2.1 h3).2.1)
      · rw [if_neg h3, if_neg h3]
    · rw [if_pos hp, if_pos hp]
theorem tld_c (hw : wfP D) (h : cng D D' m) : ∀ (n : Nat) (p a : Int), (isP D p ∨ p < 0) → tld D' n p a = tld D n p a := by
  intro n
  induction n with
  | zero => intro p a _; rfl
  | succ n ih =>
    intro p a hp
    unfold tld
    rcases hp with hp | hp
    · have hp0 := hp.1
      rw [if_neg (show ¬ p < 0 by omega), if_neg (show ¬ p < 0 by omega), (h.2.1 p hp).1, (h.2.1 p hp).2.2.1]
      by_cases h3 : D 68 p = 3
      · rw [if_pos h3, if_pos h3, prt_0 (D := D'), prt_0 (D := D), prt_c h hp (by omega) (by omega), ih _ a (Or.inl ((hw.2 p hp).2.2.2.2.2.2.2.1 h3).2.1)]
      · rw [if_neg h3, if_neg h3]
    · rw [if_pos hp, if_pos hp]
theorem lF_c (hw : wfP D) (h : cng D D' m) {p : Int} (hp : isP D p ∨ p < 0) : lF D' p = lF D p := lft_c hw h 41 p hp
theorem tF_c (hw : wfP D) (h : cng D D' m) {p a : Int} (hp : isP D p ∨ p < 0) : tF D' p a = tF D p a := tld_c hw h 41 p a hp
theorem okT_P {r : aR} (h : okT D w col E r) {k : Int} (k0 : 0 ≤ k) (k1 : k < w) (hk : 0 ≤ r.2.1 k) : isP D (r.2.1 k) := by
  rcases h k k0 k1 with h | h
  · omega
  · exact h.1
theorem spl_c (hw : wfP D) (h : cng D D' m) {r : aR} {j : Int} (ho : okT D w col E r) (hat : 0 ≤ at_ ∧ at_ < w) (hE : 0 ≤ r.2.1 at_) (h4 : D 68 (r.2.1 at_) = 4) (j0 : 0 ≤ j) (j1 : j < 2) : spl D' col at_ r j = spl D col at_ r j := by
  have hp := okT_P ho hat.1 hat.2 hE
  obtain ⟨p1, -, -⟩ := ((hw.2 _ hp).2.2.2.2.2.2.2.2 h4).1 j j0 j1
  unfold spl
  rw [prt_c h hp j0 (by omega), lF_c hw h (Or.inl p1)]
  congr 2
  funext x
  rw [tF_c hw h (Or.inl p1)]
theorem nF_c (hw : wfP D) (h : cng D D' m) (w0 : 0 ≤ w) : ∀ (n : Nat) (rows : List aR), (∀ q ∈ rows, okT D w col E q) → nF D' w col n rows = nF D w col n rows := by
  intro n
  induction n with
  | zero => intro rows _; rfl
  | succ n ih =>
    intro rows ho
    cases rows with
    | nil => rfl
    | cons r rs =>
      unfold nF
      obtain ⟨a, ha⟩ : ∃ a, a = fOp r.2.1 w.toNat 0 := ⟨_, rfl⟩
      rw [← ha]
      have hr := ho r (by simp)
      by_cases c : 0 ≤ a ∧ 0 ≤ r.2.1 a
      · have haw : a < w := by
          rcases fOp_is (f := r.2.1) w.toNat 0 with ⟨z, -⟩ | ⟨-, z, -, -⟩ <;> omega
        have hp := okT_P hr c.1 haw c.2
        rw [(h.2.1 _ hp).1]
        by_cases c4 : D 68 (r.2.1 a) = 4
        · have hcc : 0 ≤ a ∧ 0 ≤ r.2.1 a ∧ D 68 (r.2.1 a) = 4 := ⟨c.1, c.2, c4⟩
          rw [if_pos hcc, if_pos hcc, spl_c (j := 0) hw h hr ⟨c.1, haw⟩ c.2 c4 (by omega) (by omega), spl_c (j := 1) hw h hr ⟨c.1, haw⟩ c.2 c4 (by omega) (by omega)]
          by_cases c5 : rs.length = 23
          · rw [if_pos c5, if_pos c5]
          · rw [if_neg c5, if_neg c5]
            refine ih _ (fun q hq => ?_)
            rcases List.mem_cons.mp hq with z | z
            · subst z; exact okT_spl hw c.1 haw hr c.2 c4 (by omega) (by omega)
            · rcases List.mem_cons.mp z with z | z
              · subst z; exact okT_spl hw c.1 haw hr c.2 c4 (by omega) (by omega)
              · exact ho q (List.mem_cons_of_mem _ z)
        · rw [if_neg (fun z => c4 z.2.2), if_neg (fun z => c4 z.2.2)]
      · rw [if_neg (fun z => c ⟨z.1, z.2.1⟩), if_neg (fun z => c ⟨z.1, z.2.1⟩)]
theorem nA_c (hw : wfP D) (h : cng D D' m) (hat : 0 ≤ at_ ∧ at_ < w) : ∀ (n : Nat) (dn rows : List aR), (∀ q ∈ rows, okT D w col E q) → nA D' col at_ n dn rows = nA D col at_ n dn rows := by
  intro n
  induction n with
  | zero => intro dn rows _; rfl
  | succ n ih =>
    intro dn rows ho
    cases rows with
    | nil => rfl
    | cons r rs =>
      unfold nA
      have hr := ho r (by simp)
      by_cases c : 0 ≤ r.2.1 at_
      · have hp := okT_P hr hat.1 hat.2 c
        rw [(h.2.1 _ hp).1]
        by_cases c4 : D 68 (r.2.1 at_) = 4
        · have hcc : 0 ≤ r.2.1 at_ ∧ D 68 (r.2.1 at_) = 4 := ⟨c, c4⟩
          rw [if_pos hcc, if_pos hcc, spl_c (j := 0) hw h hr hat c c4 (by omega) (by omega), spl_c (j := 1) hw h hr hat c c4 (by omega) (by omega)]
          by_cases c5 : dn.length + rs.length = 23
          · rw [if_pos c5, if_pos c5]
          · rw [if_neg c5, if_neg c5]
            refine ih _ _ (fun q hq => ?_)
            rcases List.mem_cons.mp hq with z | z
            · subst z; exact okT_spl hw hat.1 hat.2 hr c c4 (by omega) (by omega)
            · rcases List.mem_cons.mp z with z | z
              · subst z; exact okT_spl hw hat.1 hat.2 hr c c4 (by omega) (by omega)
              · exact ho q (List.mem_cons_of_mem _ z)
        · rw [if_neg (fun z => c4 z.2), if_neg (fun z => c4 z.2)]
          exact ih _ _ (fun q hq => ho q (List.mem_cons_of_mem _ hq))
      · rw [if_neg (fun z => c z.1), if_neg (fun z => c z.1)]
        exact ih _ _ (fun q hq => ho q (List.mem_cons_of_mem _ hq))
theorem shp_c (hw : wfP D) (h : cng D D' m) (w0 : 0 ≤ w) (ho : ∀ q ∈ rows, okT D w col E q) (hl : rows.length ≤ 24) : shp D' w col rows = shp D w col rows := by
  unfold shp
  rw [nF_c hw h w0 25 rows ho]
  cases hF : nF D w col 25 rows with
  | none => rfl
  | some rs =>
    have ok := (nF_ok (P := okT D w col E) w0 (fun r a j h0 h1 h2 h3 h4 h5 h6 => okT_spl hw h0 h1 h2 h3 h4 h5 h6) 25 rows rs hF ho hl).1
    cases rs with
    | nil => rfl
    | cons r rs =>
      show (if fOp r.2.1 w.toNat 0 < 0 then _ else _) = (if fOp r.2.1 w.toNat 0 < 0 then _ else _)
      by_cases c : fOp r.2.1 w.toNat 0 < 0
      · rw [if_pos c, if_pos c]
      · rw [if_neg c, if_neg c]
        have ha : fOp r.2.1 w.toNat 0 < w := by
          rcases fOp_is (f := r.2.1) w.toNat 0 with ⟨a, -⟩ | ⟨a, b, -, -⟩ <;> omega
        rw [nA_c hw h ⟨by omega, ha⟩ 50 [] (r :: rs) ok]
theorem kys_c (h : cng D D' m) (hat : 0 ≤ at_ ∧ at_ < w) : ∀ (rows : List aR) (l : List Int), (∀ q ∈ rows, okT D w col E q) → kys D' at_ rows l = kys D at_ rows l := by
  intro rows
  induction rows with
  | nil => intro l _; rfl
  | cons r rs ih =>
    intro l ho
    unfold kys
    have hr := ho r (by simp)
    by_cases c : 0 ≤ r.2.1 at_
    · rw [if_pos c, if_pos c, (h.2.1 _ (okT_P hr hat.1 hat.2 c)).2.2.1]
      exact ih _ (fun q hq => ho q (List.mem_cons_of_mem _ hq))
    · rw [if_neg c, if_neg c]
      exact ih _ (fun q hq => ho q (List.mem_cons_of_mem _ hq))
theorem bMn_c (h : cng D D' m) {ty key : Int} {oth : Bool} : bMn D' ty key oth = bMn D ty key oth := by unfold bMn; rw [h.2.2.1.2.1]
theorem bRs_c (hw : wfP D) (ht : wfT D) (h : cng D D' m) (hat : 0 ≤ at_ ∧ at_ < w) {key mm : Int} {oth : Bool} (hm : mm = bMn D (E 88 (col at_)) key oth) (hmr : 0 ≤ mm ∧ mm ≤ 3) : ∀ (rows : List aR), (∀ q ∈ rows, okT D w col E q ∧ ¬ (0 ≤ q.2.1 at_ ∧ D 68 (q.2.1 at_) = 4)) → bRs D' np at_ mm key oth rows = bRs D np at_ mm key oth rows := by
  intro rows
  induction rows with
  | nil => intro _; rfl
  | cons r rs ih =>
    intro ho
    have hr := ho r (by simp)
    unfold bRs
    rw [ih (fun q hq => ho q (List.mem_cons_of_mem _ hq))]
    have hcond : (r.2.1 at_ < 0 ∨ (oth = false ∧ D' 70 (r.2.1 at_) = key)) ↔ (r.2.1 at_ < 0 ∨ (oth = false ∧ D 70 (r.2.1 at_) = key)) := by
      by_cases c : 0 ≤ r.2.1 at_
      · rw [(h.2.1 _ (okT_P hr.1 hat.1 hat.2 c)).2.2.1]
      · constructor
        · intro _; left; omega
        · intro _; left; omega
    by_cases c : r.2.1 at_ < 0 ∨ (oth = false ∧ D 70 (r.2.1 at_) = key)
    · rw [if_pos c, if_pos (hcond.mpr c)]
      congr 1
      have hb : ∀ j, 0 ≤ j → j < mm → bPt D' (r.2.1 at_) j = bPt D (r.2.1 at_) j ∧ (isP D (bPt D (r.2.1 at_) j) ∨ bPt D (r.2.1 at_) j < 0) := by
        intro j j0 j1
        have h2 := bPt_is hw ht (okT_at hw hr.1 hat hr.2) c j0 (by rw [← hm]; exact j1)
        refine ⟨?_, ?_⟩
        · unfold bPt
          by_cases z : r.2.1 at_ < 0
          · rw [if_pos z, if_pos z]
          · rw [if_neg z, if_neg z, prt_c h (okT_P hr.1 hat.1 hat.2 (by omega)) j0 (by omega)]
        · rcases h2 with z | z
          · right; omega
          · exact Or.inl z.1
      unfold bRw
      have e1 : bCl D' at_ mm r.2.1 = bCl D at_ mm r.2.1 := by
        funext k
        unfold bCl
        by_cases k1 : k < at_
        · rw [if_pos k1, if_pos k1]
        · rw [if_neg k1, if_neg k1]
          by_cases k2 : k < at_ + mm
          · obtain ⟨u, v⟩ := hb (k - at_) (by omega) (by omega)
            rw [if_pos k2, if_pos k2, u, lF_c hw h v]
          · rw [if_neg k2, if_neg k2]
      have e2 : ∀ n : Nat, (n : Int) ≤ mm → ∀ x, bNm D' (r.2.1 at_) np r.2.2 n x = bNm D (r.2.1 at_) np r.2.2 n x := by
        intro n
        induction n with
        | zero => intro _ x; rfl
        | succ n ih2 =>
          intro hn x
          unfold bNm
          obtain ⟨u, v⟩ := hb n (by omega) (by omega)
          rw [u, tF_c hw h v, ih2 (by omega) x]
      rw [e1]
      congr 2
      funext x
      exact e2 mm.toNat (by omega) x
    · rw [if_neg c, if_neg (fun z => c (hcond.mp z))]
theorem bEn_c (h : cng D D' m) {q mm key : Int} {oth : Bool} : bEn D' E q np mm key oth = bEn D E q np mm key oth := by
  unfold bEn; rw [h.2.2.1.2.2.1]
theorem chB_c (hw : wfP D) (ht : wfT D) (h : cng D D' m) (hn : wfN D w col np E rows) (hat : 0 ≤ at_ ∧ at_ < w) (hne : ∀ q ∈ rows, ¬ (0 ≤ q.2.1 at_ ∧ D 68 (q.2.1 at_) = 4)) {key : Int} {oth : Bool} (hk : okK D (E 88 (col at_)) key oth) : chB D' w col np E at_ rows key oth = chB D w col np E at_ rows key oth := by
  unfold chB
  rw [bMn_c h, bEn_c h, bRs_c hw ht h hat rfl (bMn_rg ht (hn.1.2.2.1 at_ hat.1 hat.2).2.2 hk) rows (fun q hq => ⟨(hn.2.1 q hq).1, hne q hq⟩)]
/-- the keys of a test's branches -/
theorem key_ok (hw : wfP D) (hn : wfN D w col np E rows) (hat : 0 ≤ at_ ∧ at_ < w) (hne : ∀ q ∈ rows, ¬ (0 ≤ q.2.1 at_ ∧ D 68 (q.2.1 at_) = 4)) {key : Int} (hk : key ∈ kys D at_ rows []) : okK D (E 88 (col at_)) key false ∧ rg key := by
  rw [kys_mem] at hk
  rcases hk with hk | ⟨r, h1, h2, h3⟩
  · cases hk
  · refine ⟨by rw [← h3]; exact okK_of hw (hn.2.1 r h1).1 hat (hne r h1) h2, ?_⟩
    rw [← h3]
    exact (hw.2 _ (okT_P (hn.2.1 r h1).1 hat.1 hat.2 h2)).2.2.1
theorem chT_c (hw : wfP D) (ht : wfT D) (h : cng D D' m) (hn : wfN D w col np E rows) (hat : 0 ≤ at_ ∧ at_ < w) (hne : ∀ q ∈ rows, ¬ (0 ≤ q.2.1 at_ ∧ D 68 (q.2.1 at_) = 4)) : chT D' w col np E at_ rows = chT D w col np E at_ rows := by
  unfold chT
  rw [kys_c h hat rows [] (fun q hq => (hn.2.1 q hq).1), h.2.2.1.1]
  congr 1
  · refine List.map_congr_left (fun k hk => ?_)
    exact chB_c hw ht h hn hat hne (key_ok hw hn hat hne hk).1
  · rw [chB_c hw ht h hn hat hne (fun z => by cases z)]
/-- what a node in order goes on with is in order -/
theorem wfN_chd (hw : wfP D) (ht : wfT D) {mm : Int} (hn : wfN D w col np E rows) (hcase : (at_ = -1 ∧ fA w rows = -1) ∨ ((0 ≤ at_ ∧ at_ < w) ∧ rows ≠ [] ∧ ∀ q ∈ rows, ¬ (0 ≤ q.2.1 at_ ∧ D 68 (q.2.1 at_) = 4))) : ∀ c ∈ chd D mm w col np E rows at_, wfN D c.1 c.2.1 c.2.2.1 c.2.2.2.1 c.2.2.2.2 := by
  intro c hc
  unfold chd at hc
  rcases hcase with ⟨z, -⟩ | ⟨hat, -, hne⟩
  · rw [if_pos (by omega)] at hc
    cases rows with
    | nil => cases hc
    | cons r rs =>
      have hc : c ∈ (if D 79 (12 * mm + r.1) < 0 then [] else [(w, col, np, E, rs)]) := hc
      split at hc
      · cases hc
      · have : c = (w, col, np, E, rs) := by simpa using hc
        subst this
        exact ⟨hn.1, fun q hq => hn.2.1 q (List.mem_cons_of_mem _ hq), by have := hn.2.2; rw [List.length_cons] at this; show rs.length ≤ 24; omega⟩
  · rw [if_neg (by omega)] at hc
    unfold chT at hc
    rcases List.mem_append.mp hc with hc | hc
    · obtain ⟨k, hk, rfl⟩ := List.mem_map.mp hc
      exact wfN_chB hw ht hn hat hne (key_ok hw hn hat hne hk).1 rfl
    · split at hc
      · have : c = chB D w col np E at_ rows (lA (kys D at_ rows []) 0) true := by simpa using hc
        subst this
        exact wfN_chB hw ht hn hat hne (fun z => by cases z) rfl
      · cases hc
theorem chd_c (hw : wfP D) (ht : wfT D) (h : cng D D' m) (hn : wfN D w col np E rows) (hcase : (at_ = -1 ∧ fA w rows = -1) ∨ ((0 ≤ at_ ∧ at_ < w) ∧ rows ≠ [] ∧ ∀ q ∈ rows, ¬ (0 ≤ q.2.1 at_ ∧ D 68 (q.2.1 at_) = 4))) : chd D' m w col np E rows at_ = chd D m w col np E rows at_ ∧ evt D' m E rows at_ = evt D m E rows at_ := by
  unfold chd evt
  rcases hcase with ⟨z, -⟩ | ⟨hat, -, hne⟩
  · rw [if_pos (by omega), if_pos (by omega), if_pos (by omega), if_pos (by omega)]
    cases rows with
    | nil => exact ⟨rfl, rfl⟩
    | cons r rs =>
      have hr := (hn.2.1 r (by simp)).2.1
      have e := (h.2.2.2.1 r.1 hr.1 hr.2).1
      constructor
      · show (if D' 79 (12 * m + r.1) < 0 then _ else _) = (if D 79 (12 * m + r.1) < 0 then _ else _)
        rw [e]
      · show (if D' 79 (12 * m + r.1) < 0 then _ else _) = (if D 79 (12 * m + r.1) < 0 then _ else _)
        rw [e]
  · rw [if_neg (by omega), if_neg (by omega), if_neg (by omega), if_neg (by omega)]
    exact ⟨chT_c hw ht h hn hat hne, rfl⟩
theorem fin_c (hw : wfP D) (ht : wfT D) (h : cng D D' m) : ∀ (n : Nat) (S : List aN), (∀ a ∈ S, wfN D a.1 a.2.1 a.2.2.1 a.2.2.2.1 a.2.2.2.2) → fin_ D' m n S = fin_ D m n S := by
  intro n
  induction n with
  | zero => intro S _; cases S <;> rfl
  | succ n ih =>
    intro S hS
    cases S with
    | nil => rfl
    | cons a S =>
      obtain ⟨w, col, np, E, rows⟩ := a
      have hn : wfN D w col np E rows := hS (w, col, np, E, rows) (by simp)
      have e := shp_c hw h hn.1.1 (rows := rows) (col := col) (E := E) (fun q hq => (hn.2.1 q hq).1) hn.2.2
      cases hq : shp D w col rows with
      | none => rw [fin_over hq, fin_over (by rw [e]; exact hq)]
      | some q =>
        obtain ⟨rows', a⟩ := q
        obtain ⟨wf2, hcase⟩ := wfN_shp hw hn hq
        obtain ⟨e1, e2⟩ := chd_c hw ht h wf2 hcase
        rw [fin_some hq, fin_some (by rw [e]; exact hq), e1, e2, ih]
        intro c hc
        rcases List.mem_append.mp hc with z | z
        · exact wfN_chd hw ht wf2 hcase c z
        · exact hS c (List.mem_cons_of_mem _ z)
theorem mSz_c (h : cng D D' m) {t k : Int} : mSz D' t k = mSz D t k := mSz_D ⟨h.2.2.1.2.1, h.2.2.1.2.2.1, h.2.2.1.2.2.2.1⟩
theorem pMk_c (h : cng D D' m) {t : Int} : pMk D' t = pMk D t := by
  have : ∀ (n : Nat) (k : Int), fm D' t n k = fm D t n k := by
    intro n
    induction n with
    | zero => intro k; rfl
    | succ n ih => intro k; unfold fm; rw [mSz_c h, h.2.2.1.2.2.2.1, ih]
  exact this 6 0
theorem ptx_c (h : cng D D' m) : ∀ (n : Nat) (t : Int), ptx D' n t = ptx D n t := by
  intro n
  induction n with
  | zero => intro t; rfl
  | succ n ih =>
    intro t
    unfold ptx
    rw [pMk_c h, h.2.2.1.2.1, h.2.2.1.2.2.1]
    have : (fun k => ptx D' n (D 62 (3 * (6 * t + pMk D t) + k))) = (fun k => ptx D n (D 62 (3 * (6 * t + pMk D t) + k))) := by funext k; exact ih _
    rw [this]
theorem tx_c (h : cng D D' m) : ∀ (n : Nat) (q : Int), tx D' E n q = tx D E n q := by
  intro n
  induction n with
  | zero => intro q; rfl
  | succ n ih =>
    intro q
    unfold tx
    rw [h.2.2.1.2.1, h.2.2.1.2.2.1, ptx_c h]
    have : (fun k => if E 91 q = 0 then tx D' E n (E 92 q + k) else ptx D' 9 (D 62 (3 * (6 * E 88 q + E 90 q) + k))) = (fun k => if E 91 q = 0 then tx D E n (E 92 q + k) else ptx D 9 (D 62 (3 * (6 * E 88 q + E 90 q) + k))) := by funext k; rw [ih, ptx_c h]
    rw [this]
theorem app_c (h : cng D D' m) : app D' m = app D m := by
  funext σ v
  unfold app
  have : tx D' v.2.2 400 = tx D v.2.2 400 := by funext q; exact tx_c h 400 q
  rw [this, h.2.2.2.2.1]
end CNG
