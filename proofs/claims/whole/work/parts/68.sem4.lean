/-! ===== a way through a tree takes the first row that patterns tell ===== -/
theorem srt_len {hi : Int} : ∀ (l : List Int) (lo : Int), l.Pairwise (· < ·) → (∀ y ∈ l, lo ≤ y ∧ y < hi) → lo ≤ hi → (l.length : Int) ≤ hi - lo := by
  intro l
  induction l with
  | nil => intro lo _ _ h; simp; omega
  | cons z l ih =>
    intro lo h1 h2 h3
    rw [List.pairwise_cons] at h1
    have hz := h2 z (by simp)
    have := ih (z + 1) h1.2 (fun y hy => ⟨by have := h1.1 y hy; omega, (h2 y (by simp [hy])).2⟩) (by omega)
    rw [List.length_cons]
    omega
theorem ins_len {x : Int} : ∀ l : List Int, x ∉ l → (ins x l).length = l.length + 1 := by
  intro l
  induction l with
  | nil => intro _; rfl
  | cons z l ih =>
    intro h
    unfold ins
    by_cases h1 : z < x
    · rw [if_pos h1, List.length_cons, ih (fun y => h (by simp [y])), List.length_cons]
    · rw [if_neg h1, if_neg (fun y => h (by simp [y]))]
      rfl
/-- if all have a place, each is there -/
theorem srt_all {N h : Int} {l : List Int} (h1 : l.Pairwise (· < ·)) (h2 : ∀ y ∈ l, 0 ≤ y ∧ y < N) (h3 : N ≤ l.length) (h4 : 0 ≤ h ∧ h < N) : h ∈ l := by
  by_cases hm : h ∈ l
  · exact hm
  · have e := ins_len l hm
    have := srt_len (hi := N) (ins h l) 0 (ins_ord l h1) (fun y hy => by rcases (ins_mem l).mp hy with z | z; omega; exact h2 y z) (by omega)
    omega
section SEM4
variable {D : xM} {m : Int}
/-- all that a walk's answer depends on -/
def wOK (D : xM) : Prop := wfP D ∧ wfT D ∧ wfVl D ∧ wfB D ∧ wfE D
/-- a value's head is there, or there are others -/
theorem keys_all {E : xM} {w np at_ : Int} {col va : Int → Int} {rows : List aR} (hg : wOK D) (hn : wfN D w col np E rows) (hat : 0 ≤ at_ ∧ at_ < w) (hne : ∀ q ∈ rows, ¬ (0 ≤ q.2.1 at_ ∧ D 68 (q.2.1 at_) = 4)) (hval : valOK D np E va) (hno : D 65 (va (col at_)) ∉ kys D at_ rows []) : E 88 (col at_) = 0 ∨ ((kys D at_ rows []).length : Int) < D 60 (E 88 (col at_)) := by
  obtain ⟨gp, gt, gv, gb, ge⟩ := hg
  have hca := hn.1.2.2.1 at_ hat.1 hat.2
  obtain ⟨v1, v2⟩ := hval _ hca.1.1 hca.1.2
  obtain ⟨v3, v4, v5⟩ := gv.2 _ v1.1 v1.2
  rw [v2] at v5
  by_cases z : E 88 (col at_) = 0
  · exact Or.inl z
  · right
    by_cases y : ((kys D at_ rows []).length : Int) < D 60 (E 88 (col at_))
    · exact y
    · exact absurd (srt_all (kys_ord rows [] List.Pairwise.nil) (fun k hk => (key_ok gp hn hat hne hk).1 rfl z) (by omega) (v5 (by omega)).1) hno
theorem wk_out (hg : wOK D) : ∀ (n k : Nat) (w : Int) (col : Int → Int) (np : Int) (E : xM) (rows : List aR) (va : Int → Int) (rest : List aN), n ≤ k → fin_ D m n ((w, col, np, E, rows) :: rest) ≠ none → wfN D w col np E rows → (∀ r ∈ rows, rI D m w r) → valOK D np E va → oEq (wk D m k (w, col, np, E, rows) va).2.2 (out D m w col va rows) := by
  have hg' := hg
  obtain ⟨gp, gt, gv, gb, ge⟩ := hg'
  intro n
  induction n using Nat.strongRecOn with
  | ind n IH =>
    intro k w col np E rows va rest hk hfin hn hr hval
    obtain ⟨n, rows', a, rfl, hsh, hch⟩ := fin_node hfin
    obtain ⟨k, rfl⟩ : ∃ k', k = k' + 1 := ⟨k - 1, by omega⟩
    obtain ⟨wf2, hcase⟩ := wfN_shp gp hn hsh
    obtain ⟨o1, o2⟩ := out_shp (va := va) gp gt gb ge hn.1 hsh (fun q hq => ⟨(hn.2.1 q hq).1, hr q hq⟩) hn.2.2
    refine oEq_trans ?_ o1
    rcases hcase with ⟨z, hA⟩ | ⟨hat, hne0, hne⟩
    · subst z
      cases rows' with
      | nil => rw [wk_fail hsh]; exact oEq_refl
      | cons r rs =>
        have hall : ∀ j, 0 ≤ j → j < w → r.2.1 j < 0 := by
          rcases fOp_is (f := r.2.1) w.toNat 0 with ⟨-, z⟩ | ⟨z, -, -, -⟩
          · intro j j0 j1; exact z j j0 (by omega)
          · have hA : fOp r.2.1 w.toNat 0 = -1 := hA
            omega
        have hm : rmb D col va r w.toNat 0 = true := (rmb_rmt hn.1.1).mpr (fun j j0 j1 hj => by have := hall j j0 j1; omega)
        have hrn : ∀ x, rnv D w col va r x = nmv va r x := by
          intro x
          unfold nmv
          by_cases y : r.2.2 x < 0
          · rw [if_pos y, rnv_none y (fun j j0 j1 q => by have := hall j j0 j1; omega)]
          · rw [if_neg y, rnv_told (by omega)]
        rw [wk_leaf hsh, out_cs]
        by_cases c1 : D 79 (12 * m + r.1) < 0
        · rw [if_pos c1, if_pos ⟨hm, Or.inl c1⟩]
          exact ⟨rfl, fun x _ _ => (hrn x).symm⟩
        · rw [if_neg c1]
          have hI := (o2 r (by simp)).2
          have nam0 : ∀ x, (x = D 79 (12 * m + r.1) ∨ x = D 80 (12 * m + r.1)) → rnv D w col va r x = va (r.2.2 x) := by
            intro x hx
            obtain ⟨u1, u2⟩ := hI.1 (by omega) x hx
            rcases u2 with u2 | ⟨j, hj, hj2, -⟩
            · exact rnv_told u2
            · have := hall j hj.1 hj.2; omega
          rw [nam0 _ (Or.inl rfl), nam0 _ (Or.inr rfl)]
          by_cases c2 : D 65 (va (r.2.2 (D 79 (12 * m + r.1)))) < D 65 (va (r.2.2 (D 80 (12 * m + r.1))))
          · rw [if_pos c2, if_pos ⟨hm, Or.inr c2⟩]
            exact ⟨rfl, fun x _ _ => (hrn x).symm⟩
          · rw [if_neg c2, if_neg (by rintro ⟨-, y | y⟩; exact c1 y; exact c2 y)]
            have ec : chd D m w col np E (r :: rs) (-1) = [(w, col, np, E, rs)] := by
              unfold chd
              rw [if_pos (by omega)]
              show (if D 79 (12 * m + r.1) < 0 then _ else _) = _
              rw [if_neg c1]
            obtain ⟨k', rest', hk', hf⟩ := hch (w, col, np, E, rs) (by rw [ec]; simp)
            exact IH k' (by omega) k w col np E rs va rest' (by omega) hf ⟨wf2.1, fun q hq => wf2.2.1 q (List.mem_cons_of_mem _ hq), by have := wf2.2.2; rw [List.length_cons] at this; omega⟩ (fun q hq => (o2 q (List.mem_cons_of_mem _ hq)).2) hval
    · have hcd : chd D m w col np E rows' a = chT D w col np E a rows' := by unfold chd; rw [if_neg (by omega)]
      rw [hcd] at hch
      have hca := wf2.1.2.2.1 a hat.1 hat.2
      rw [wk_test hsh hat.1]
      -- a branch
      have brn : ∀ (key : Int) (oth : Bool) (va' : Int → Int), okK D (E 88 (col a)) key oth → chB D w col np E a rows' key oth ∈ chT D w col np E a rows' → (∀ mm, mm = bMn D (E 88 (col a)) key oth → valOK D (np + mm) (bEn D E (col a) np mm key oth) va' ∧ (∀ x, 0 ≤ x → x < np → va' x = va x) ∧ ∀ j, 0 ≤ j → j < mm → va' (np + j) = D 66 (3 * va (col a) + j)) → (∀ r ∈ rows', 0 ≤ r.2.1 a → ((oth = false ∧ D 70 (r.2.1 a) = key) ↔ D 65 (va (col a)) = D 70 (r.2.1 a))) → oEq (wk D m k (chB D w col np E a rows' key oth) va').2.2 (out D m w col va rows') := by
        intro key oth va' hkk hmem hva hhit
        obtain ⟨mm, hm⟩ : ∃ mm, mm = bMn D (E 88 (col a)) key oth := ⟨_, rfl⟩
        obtain ⟨hva1, hva2, hva3⟩ := hva mm hm
        have hmr := bMn_rg gt hca.2.2 hkk
        rw [← hm] at hmr
        have hcB : chB D w col np E a rows' key oth = (w - 1 + mm, bCol col np a mm, np + mm, bEn D E (col a) np mm key oth, bRs D np a mm key oth rows') := by unfold chB; rw [← hm]
        obtain ⟨k', rest', hk', hf⟩ := hch _ hmem
        rw [hcB] at hf ⊢
        refine oEq_trans (IH k' (by omega) k _ _ _ _ _ va' rest' (by omega) hf (wfN_chB gp gt wf2 hat hne hkk hm) (fun r' hr' => ?_) hva1) (out_bRs gp gt gb wf2.1 hmr hat hm hva2 hva3 rows' (fun r hr => ⟨wf2.2.1 r hr, hne r hr, (o2 r hr).2⟩) hhit)
        obtain ⟨r, hr1, hr2, hr3⟩ := bRs_mem rows' hr'
        rw [hr2]
        exact rI_bRw gp gt gb ge wf2.1 hmr hat (wf2.2.1 r hr1).1 (hne r hr1) hr3 hm (o2 r hr1).2
      by_cases c1 : D 65 (va (col a)) ∈ kys D a rows' []
      · rw [if_pos c1]
        refine brn (D 65 (va (col a))) false (vaN D va np (col a)) (key_ok gp wf2 hat hne c1).1 ?_ (fun mm hm => ⟨valOK_N gv gt hm hval hca.1 rfl, fun x x0 x1 => by unfold vaN; rw [if_neg (by omega)], fun j h0 h1 => by unfold vaN; rw [if_pos (by omega), show np + j - np = j by omega]⟩) (fun r hr h0 => ⟨fun y => y.2.symm, fun y => ⟨rfl, y.symm⟩⟩)
        unfold chT
        exact List.mem_append_left _ (List.mem_map.mpr ⟨_, c1, rfl⟩)
      · have more := keys_all hg wf2 hat hne hval c1
        rw [if_neg c1, if_pos more]
        refine brn (lA (kys D a rows' []) 0) true va (fun z => by cases z) ?_ (fun mm hm => ?_) (fun r hr h0 => ⟨fun y => (by cases y.1), fun y => absurd ((kys_mem rows' []).mpr (Or.inr ⟨r, hr, h0, y.symm⟩)) c1⟩)
        · unfold chT
          rw [if_pos more]
          exact List.mem_append_right _ (by simp)
        · have hm0 : mm = 0 := by rw [hm]; unfold bMn; rw [if_pos (Or.inl rfl)]
          subst hm0
          refine ⟨fun x x0 x1 => ?_, fun x _ _ => rfl, fun j h0 h1 => by omega⟩
          have b88 : bEn D E (col a) np 0 (lA (kys D a rows' []) 0) true 88 x = E 88 x := by
            unfold bEn; rw [if_neg (by omega), if_neg (by omega), if_neg (by omega), if_neg (by omega), if_neg (by omega), if_neg (by omega)]
          rw [b88]; exact hval x x0 (by omega)
end SEM4
