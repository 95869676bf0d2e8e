/-! ===== laid by dec.py: the texts of the reference's methods ===== -/
def R_isType (e : yE) (d : Nat) (x1 : Int) (M : xM) (Q : Int → xM → Prop) : Prop := xcall xft xNf xmt xtr d 101 [.inr (some 59), .inl x1] (yS e M) (yI e Q)
def R_type (e : yE) (d : Nat) (M : xM) (Q : Int → xM → Prop) : Prop := xcall xft xNf xmt xtr d 102 [.inr (some 59)] (yS e M) (yI e Q)
def R_maker (e : yE) (d : Nat) (x1 : Int) (x2 : Int) (x3 : Int) (x4 : Int) (x5 : Int) (M : xM) (Q : Int → xM → Prop) : Prop := xcall xft xNf xmt xtr d 103 [.inr (some 59), .inl x1, .inl x2, .inl x3, .inl x4, .inl x5] (yS e M) (yI e Q)
def R_madeSize (e : yE) (d : Nat) (x1 : Int) (x2 : Int) (M : xM) (Q : Int → xM → Prop) : Prop := xcall xft xNf xmt xtr d 104 [.inr (some 59), .inl x1, .inl x2] (yS e M) (yI e Q)
def R_findPlains (e : yE) (d : Nat) (M : xM) (Q : xM → Prop) : Prop := xcall xft xNf xmt xtr d 105 [.inr (some 59)] (yS e M) (yV e Q)
def R_isMaker (e : yE) (d : Nat) (x1 : Int) (x2 : Int) (M : xM) (Q : Int → xM → Prop) : Prop := xcall xft xNf xmt xtr d 106 [.inr (some 59), .inl x1, .inl x2] (yS e M) (yI e Q)
def R_countOf (e : yE) (d : Nat) (x1 : Int) (x2 : Int) (M : xM) (Q : Int → xM → Prop) : Prop := xcall xft xNf xmt xtr d 107 [.inr (some 59), .inl x1, .inl x2] (yS e M) (yI e Q)
def R_partType (e : yE) (d : Nat) (x1 : Int) (x2 : Int) (x3 : Int) (M : xM) (Q : Int → xM → Prop) : Prop := xcall xft xNf xmt xtr d 108 [.inr (some 59), .inl x1, .inl x2, .inl x3] (yS e M) (yI e Q)
def R_addValue (e : yE) (d : Nat) (x1 : Int) (x2 : Int) (x3 : Int) (M : xM) (Q : Int → xM → Prop) : Prop := xcall xft xNf xmt xtr d 109 [.inr (some 59), .inl x1, .inl x2, .inl x3] (yS e M) (yI e Q)
def R_number (e : yE) (d : Nat) (x1 : Int) (M : xM) (Q : Int → xM → Prop) : Prop := xcall xft xNf xmt xtr d 110 [.inr (some 59), .inl x1] (yS e M) (yI e Q)
def R_isValueOf (e : yE) (d : Nat) (x1 : Int) (x2 : Int) (M : xM) (Q : Int → xM → Prop) : Prop := xcall xft xNf xmt xtr d 111 [.inr (some 59), .inl x1, .inl x2] (yS e M) (yI e Q)
def R_pick (e : yE) (d : Nat) (x0 : Int) (x1 : Int) (x2 : Int) (x3 : Int) (M : xM) (Q : Int → xM → Prop) : Prop := xcall xft xNf xmt xtr d 112 [.inl x0, .inl x1, .inl x2, .inl x3] (yS e M) (yI e Q)
def R_make (e : yE) (d : Nat) (x1 : Int) (x2 : Int) (x3 : Int) (x4 : Int) (x5 : Int) (M : xM) (Q : Int → xM → Prop) : Prop := xcall xft xNf xmt xtr d 113 [.inr (some 59), .inl x1, .inl x2, .inl x3, .inl x4, .inl x5] (yS e M) (yI e Q)
def R_addPattern (e : yE) (d : Nat) (x1 : Int) (x2 : Int) (x3 : Int) (x4 : Int) (x5 : Int) (x6 : Int) (M : xM) (Q : Int → xM → Prop) : Prop := xcall xft xNf xmt xtr d 114 [.inr (some 59), .inl x1, .inl x2, .inl x3, .inl x4, .inl x5, .inl x6] (yS e M) (yI e Q)
def R_isName (e : yE) (d : Nat) (x0 : Int) (M : xM) (Q : Int → xM → Prop) : Prop := xcall xft xNf xmt xtr d 115 [.inl x0] (yS e M) (yI e Q)
def R_isPattern (e : yE) (d : Nat) (x1 : Int) (M : xM) (Q : Int → xM → Prop) : Prop := xcall xft xNf xmt xtr d 116 [.inr (some 59), .inl x1] (yS e M) (yI e Q)
def R_hasName (e : yE) (d : Nat) (x1 : Int) (x2 : Int) (M : xM) (Q : Int → xM → Prop) : Prop := xcall xft xNf xmt xtr d 117 [.inr (some 59), .inl x1, .inl x2] (yS e M) (yI e Q)
def R_any (e : yE) (d : Nat) (x1 : Int) (x2 : Int) (M : xM) (Q : Int → xM → Prop) : Prop := xcall xft xNf xmt xtr d 118 [.inr (some 59), .inl x1, .inl x2] (yS e M) (yI e Q)
def R_also (e : yE) (d : Nat) (x1 : Int) (x2 : Int) (M : xM) (Q : Int → xM → Prop) : Prop := xcall xft xNf xmt xtr d 119 [.inr (some 59), .inl x1, .inl x2] (yS e M) (yI e Q)
def R_exactly (e : yE) (d : Nat) (x1 : Int) (M : xM) (Q : Int → xM → Prop) : Prop := xcall xft xNf xmt xtr d 120 [.inr (some 59), .inl x1] (yS e M) (yI e Q)
def R_made (e : yE) (d : Nat) (x1 : Int) (x2 : Int) (x3 : Int) (x4 : Int) (x5 : Int) (M : xM) (Q : Int → xM → Prop) : Prop := xcall xft xNf xmt xtr d 121 [.inr (some 59), .inl x1, .inl x2, .inl x3, .inl x4, .inl x5] (yS e M) (yI e Q)
def R_either (e : yE) (d : Nat) (x1 : Int) (x2 : Int) (M : xM) (Q : Int → xM → Prop) : Prop := xcall xft xNf xmt xtr d 122 [.inr (some 59), .inl x1, .inl x2] (yS e M) (yI e Q)
def R_match (e : yE) (d : Nat) (x1 : Int) (x2 : Int) (x3 : Int) (x4 : Int) (M : xM) (Q : Int → xM → Prop) : Prop := xcall xft xNf xmt xtr d 123 [.inr (some 59), .inl x1, .inl x2, .inl x3, .inl x4] (yS e M) (yI e Q)
def R_isMatch (e : yE) (d : Nat) (x1 : Int) (M : xM) (Q : Int → xM → Prop) : Prop := xcall xft xNf xmt xtr d 124 [.inr (some 59), .inl x1] (yS e M) (yI e Q)
def R_patternOf (e : yE) (d : Nat) (x1 : Int) (x2 : Int) (x3 : Int) (M : xM) (Q : Int → xM → Prop) : Prop := xcall xft xNf xmt xtr d 125 [.inr (some 59), .inl x1, .inl x2, .inl x3] (yS e M) (yI e Q)
def R_typeOfName (e : yE) (d : Nat) (x1 : Int) (x2 : Int) (M : xM) (Q : Int → xM → Prop) : Prop := xcall xft xNf xmt xtr d 126 [.inr (some 59), .inl x1, .inl x2] (yS e M) (yI e Q)
def R_row (e : yE) (d : Nat) (x1 : Int) (x2 : Int) (x3 : Int) (x4 : Int) (x5 : Int) (x6 : Int) (M : xM) (Q : Int → xM → Prop) : Prop := xcall xft xNf xmt xtr d 127 [.inr (some 59), .inl x1, .inl x2, .inl x3, .inl x4, .inl x5, .inl x6] (yS e M) (yI e Q)
def R_doesMatch (e : yE) (d : Nat) (x1 : Int) (x2 : Int) (M : xM) (Q : Int → xM → Prop) : Prop := xcall xft xNf xmt xtr d 128 [.inr (some 59), .inl x1, .inl x2] (yS e M) (yI e Q)
def R_takes (e : yE) (d : Nat) (x1 : Int) (x2 : Int) (x3 : Int) (x4 : Int) (x5 : Int) (M : xM) (Q : Int → xM → Prop) : Prop := xcall xft xNf xmt xtr d 129 [.inr (some 59), .inl x1, .inl x2, .inl x3, .inl x4, .inl x5] (yS e M) (yI e Q)
def R_newPlace (e : yE) (d : Nat) (x1 : Int) (x2 : Int) (M : xM) (Q : Int → xM → Prop) : Prop := xcall xft xNf xmt xtr d 130 [.inr (some 59), .inl x1, .inl x2] (yS e M) (yI e Q)
def R_pushRow (e : yE) (d : Nat) (x1 : Int) (x2 : Int) (M : xM) (Q : Int → xM → Prop) : Prop := xcall xft xNf xmt xtr d 131 [.inr (some 59), .inl x1, .inl x2] (yS e M) (yI e Q)
def R_cell (e : yE) (d : Nat) (x1 : Int) (x2 : Int) (M : xM) (Q : Int → xM → Prop) : Prop := xcall xft xNf xmt xtr d 132 [.inr (some 59), .inl x1, .inl x2] (yS e M) (yI e Q)
def R_setCell (e : yE) (d : Nat) (x1 : Int) (x2 : Int) (x3 : Int) (x4 : Int) (M : xM) (Q : xM → Prop) : Prop := xcall xft xNf xmt xtr d 133 [.inr (some 59), .inl x1, .inl x2, .inl x3, .inl x4] (yS e M) (yV e Q)
def R_copyRow (e : yE) (d : Nat) (x1 : Int) (x2 : Int) (x3 : Int) (M : xM) (Q : xM → Prop) : Prop := xcall xft xNf xmt xtr d 134 [.inr (some 59), .inl x1, .inl x2, .inl x3] (yS e M) (yV e Q)
def R_goThrough (e : yE) (d : Nat) (x1 : Int) (x2 : Int) (x3 : Int) (x4 : Int) (x5 : Int) (M : xM) (Q : xM → Prop) : Prop := xcall xft xNf xmt xtr d 135 [.inr (some 59), .inl x1, .inl x2, .inl x3, .inl x4, .inl x5] (yS e M) (yV e Q)
def R_countNode (e : yE) (d : Nat) (x1 : Int) (M : xM) (Q : Int → xM → Prop) : Prop := xcall xft xNf xmt xtr d 136 [.inr (some 59), .inl x1] (yS e M) (yI e Q)
def R_firstOpen (e : yE) (d : Nat) (x1 : Int) (x2 : Int) (M : xM) (Q : Int → xM → Prop) : Prop := xcall xft xNf xmt xtr d 137 [.inr (some 59), .inl x1, .inl x2] (yS e M) (yI e Q)
def R_isEither (e : yE) (d : Nat) (x1 : Int) (x2 : Int) (M : xM) (Q : Int → xM → Prop) : Prop := xcall xft xNf xmt xtr d 138 [.inr (some 59), .inl x1, .inl x2] (yS e M) (yI e Q)
def R_split (e : yE) (d : Nat) (x1 : Int) (x2 : Int) (x3 : Int) (x4 : Int) (x5 : Int) (M : xM) (Q : xM → Prop) : Prop := xcall xft xNf xmt xtr d 139 [.inr (some 59), .inl x1, .inl x2, .inl x3, .inl x4, .inl x5] (yS e M) (yV e Q)
def R_node (e : yE) (d : Nat) (x1 : Int) (x2 : Int) (x3 : Int) (M : xM) (Q : xM → Prop) : Prop := xcall xft xNf xmt xtr d 140 [.inr (some 59), .inl x1, .inl x2, .inl x3] (yS e M) (yV e Q)
def R_failure (e : yE) (d : Nat) (M : xM) (Q : xM → Prop) : Prop := xcall xft xNf xmt xtr d 141 [.inr (some 59)] (yS e M) (yV e Q)
def R_leaf (e : yE) (d : Nat) (x1 : Int) (x2 : Int) (x3 : Int) (M : xM) (Q : xM → Prop) : Prop := xcall xft xNf xmt xtr d 142 [.inr (some 59), .inl x1, .inl x2, .inl x3] (yS e M) (yV e Q)
def R_test (e : yE) (d : Nat) (x1 : Int) (x2 : Int) (x3 : Int) (x4 : Int) (M : xM) (Q : xM → Prop) : Prop := xcall xft xNf xmt xtr d 143 [.inr (some 59), .inl x1, .inl x2, .inl x3, .inl x4] (yS e M) (yV e Q)
def R_leastOther (e : yE) (d : Nat) (x1 : Int) (x2 : Int) (x3 : Int) (M : xM) (Q : Int → xM → Prop) : Prop := xcall xft xNf xmt xtr d 144 [.inr (some 59), .inl x1, .inl x2, .inl x3] (yS e M) (yI e Q)
def R_branch (e : yE) (d : Nat) (x1 : Int) (x2 : Int) (x3 : Int) (x4 : Int) (x5 : Int) (x6 : Int) (x7 : Int) (M : xM) (Q : xM → Prop) : Prop := xcall xft xNf xmt xtr d 145 [.inr (some 59), .inl x1, .inl x2, .inl x3, .inl x4, .inl x5, .inl x6, .inl x7] (yS e M) (yV e Q)
def R_put (e : yE) (d : Nat) (x1 : Int) (M : xM) (Q : xM → Prop) : Prop := xcall xft xNf xmt xtr d 146 [.inr (some 59), .inl x1] (yS e M) (yV e Q)
def R_tellPlain (e : yE) (d : Nat) (x1 : Int) (M : xM) (Q : xM → Prop) : Prop := xcall xft xNf xmt xtr d 147 [.inr (some 59), .inl x1] (yS e M) (yV e Q)
def R_tell (e : yE) (d : Nat) (x1 : Int) (M : xM) (Q : xM → Prop) : Prop := xcall xft xNf xmt xtr d 148 [.inr (some 59), .inl x1] (yS e M) (yV e Q)
def R_look (e : yE) (d : Nat) (x1 : Int) (M : xM) (Q : xM → Prop) : Prop := xcall xft xNf xmt xtr d 149 [.inr (some 59), .inl x1] (yS e M) (yV e Q)
def R_forget (e : yE) (d : Nat) (M : xM) (Q : xM → Prop) : Prop := xcall xft xNf xmt xtr d 150 [.inr (some 59)] (yS e M) (yV e Q)
def R_run (e : yE) (d : Nat) (x1 : Int) (x2 : Int) (x3 : Int) (x4 : Int) (M : xM) (Q : Int → xM → Prop) : Prop := xcall xft xNf xmt xtr d 151 [.inr (some 59), .inl x1, .inl x2, .inl x3, .inl x4] (yS e M) (yI e Q)
def R_took (e : yE) (d : Nat) (x1 : Int) (M : xM) (Q : Int → xM → Prop) : Prop := xcall xft xNf xmt xtr d 152 [.inr (some 59), .inl x1] (yS e M) (yI e Q)
def R_tree (e : yE) (d : Nat) (x1 : Int) (x2 : Int) (M : xM) (Q : Int → xM → Prop) : Prop := xcall xft xNf xmt xtr d 153 [.inr (some 59), .inl x1, .inl x2] (yS e M) (yI e Q)
def R_missing (e : yE) (d : Nat) (x1 : Int) (M : xM) (Q : Int → xM → Prop) : Prop := xcall xft xNf xmt xtr d 154 [.inr (some 59), .inl x1] (yS e M) (yI e Q)
def R_part (e : yE) (d : Nat) (x1 : Int) (M : xM) (Q : Int → xM → Prop) : Prop := xcall xft xNf xmt xtr d 155 [.inr (some 59), .inl x1] (yS e M) (yI e Q)
def R_plain (e : yE) (d : Nat) (x1 : Int) (M : xM) (Q : Int → xM → Prop) : Prop := xcall xft xNf xmt xtr d 156 [.inr (some 59), .inl x1] (yS e M) (yI e Q)
def R_sumOf (e : yE) (d : Nat) (a0 : Nat) (n0 : Nat) (x1 : Int) (M : xM) (Q : Int → xM → Prop) : Prop := xcall xft xNf xmt xtr d 157 [.inr (some a0), .inl x1] (yS e M) (yI e Q)
def R_count (e : yE) (d : Nat) (x1 : Int) (M : xM) (Q : Int → xM → Prop) : Prop := xcall xft xNf xmt xtr d 158 [.inr (some 59), .inl x1] (yS e M) (yI e Q)
def R_check (e : yE) (d : Nat) (M : xM) (Q : Int → xM → Prop) : Prop := xcall xft xNf xmt xtr d 159 [.inr (some 59)] (yS e M) (yI e Q)
def R_isType_0 (e : yE) (d : Nat) (x1 : Int) (M : xM) (Q : Int → xM → Prop) : Prop := xGo xft xNf xmt xtr d 101 0 [some (.inr (some 59)), some (.inl x1)] [] (yS e M) (yI e Q)
theorem t_isType_0 {e : yE} {d : Nat} {x1 : Int} {M : xM} {Q : Int → xM → Prop} (hs : RSh e) (h :
    (rg x1) ∧ ((x1 < 0 → 
      (Q (0 : Int) M)) ∧ 
    (¬ (x1 < 0) → 
      ((rg x1 ∧ rg (M 59 1)) ∧ (((M 59 1) ≤ x1 → 
        (Q (0 : Int) M)) ∧ 
      (¬ ((M 59 1) ≤ x1) → 
        (Q (1 : Int) M))))))) : R_isType_0 e d x1 M Q := by
  refine xGo.in ?_
  refine And.intro (h.1) (And.intro (fun c => ?_) (fun c => ?_))
  · replace h := h.2.1 c
    exact And.intro (by decide) (yI_ret h)
  · replace h := h.2.2 c
    refine And.intro (rs_ob hs) ?_
    refine And.intro (⟨h.1.1, h.1.2⟩) (And.intro (fun c => ?_) (fun c => ?_))
    · replace h := h.2.1 c
      exact And.intro (by decide) (yI_ret h)
    · replace h := h.2.2 c
      exact And.intro (by decide) (yI_ret h)
theorem t_isType {e : yE} {d : Nat} {x1 : Int} {M : xM} {Q : Int → xM → Prop} (h : R_isType_0 e d x1 M Q) : R_isType e (d + 1) x1 M Q := h
def R_type_0 (e : yE) (d : Nat) (M : xM) (Q : Int → xM → Prop) : Prop := xGo xft xNf xmt xtr d 102 0 [some (.inr (some 59))] [] (yS e M) (yI e Q)
theorem t_type_0 {e : yE} {d : Nat} {M : xM} {Q : Int → xM → Prop} (hs : RSh e) (h :
    ∀ M1 : xM, M1 = xup M 59 0 (0 : Int) → 
    ((rg (M1 59 1)) ∧ ((¬ (M1 59 1) = (8 : Int) → 
      (∀ M2 : xM, M2 = xup M1 59 1 ((M1 59 1) + (1 : Int)) → 
      (Q ((M2 59 1) - (1 : Int)) M2))) ∧ 
    (¬ (¬ (M1 59 1) = (8 : Int)) → 
      (Q (-1 : Int) M1))))) : R_type_0 e d  M Q := by
  refine xGo.in ?_
  refine And.intro (rs_ob hs) ?_
  obtain ⟨M1, hM1⟩ : ∃ z : xM, z = xup M 59 0 (0 : Int) := ⟨_, rfl⟩
  refine xgo_st (e := e) (M := M1) (by subst hM1; rfl) ?_
  replace h := h M1 hM1
  refine And.intro (rs_ob hs) ?_
  refine And.intro (⟨h.1, rg_lit (by decide)⟩) (And.intro (fun c => ?_) (fun c => ?_))
  · replace h := h.2.1 c
    refine And.intro (rs_ob hs) ?_
    refine And.intro (rs_ob hs) ?_
    obtain ⟨M2, hM2⟩ : ∃ z : xM, z = xup M1 59 1 ((M1 59 1) + (1 : Int)) := ⟨_, rfl⟩
    refine xgo_st (e := e) (M := M2) (by subst hM2; rfl) ?_
    replace h := h M2 hM2
    refine And.intro (rs_ob hs) ?_
    exact yI_ret h
  · replace h := h.2.2 c
    exact yI_ret h
theorem t_type {e : yE} {d : Nat} {M : xM} {Q : Int → xM → Prop} (h : R_type_0 e d  M Q) : R_type e (d + 1)  M Q := h
def R_maker_0 (e : yE) (d : Nat) (x1 x2 x3 x4 x5 : Int) (M : xM) (Q : Int → xM → Prop) : Prop := ∀ (o6 : Option xV), xGo xft xNf xmt xtr d 103 0 [some (.inr (some 59)), some (.inl x1), some (.inl x2), some (.inl x3), some (.inl x4), some (.inl x5), o6] [] (yS e M) (yI e Q)
def R_maker_68 (e : yE) (d : Nat) (x1 x2 x3 x4 x5 : Int) (M : xM) (Q : Int → xM → Prop) : Prop := ∀ (o6 : Option xV), xGo xft xNf xmt xtr d 103 68 [some (.inr (some 59)), some (.inl x1), some (.inl x2), some (.inl x3), some (.inl x4), some (.inl x5), o6] [] (yS e M) (yI e Q)
def R_maker_82 (e : yE) (d : Nat) (x1 x2 x3 x4 x5 : Int) (M : xM) (Q : Int → xM → Prop) : Prop := ∀ (o6 : Option xV), xGo xft xNf xmt xtr d 103 82 [some (.inr (some 59)), some (.inl x1), some (.inl x2), some (.inl x3), some (.inl x4), some (.inl x5), o6] [] (yS e M) (yI e Q)
def R_maker_98 (e : yE) (d : Nat) (x1 x2 x3 x4 x5 : Int) (M : xM) (Q : Int → xM → Prop) : Prop := ∀ (o6 : Option xV), xGo xft xNf xmt xtr d 103 98 [some (.inr (some 59)), some (.inl x1), some (.inl x2), some (.inl x3), some (.inl x4), some (.inl x5), o6] [] (yS e M) (yI e Q)
theorem t_maker_0 {e : yE} {d : Nat} {x1 x2 x3 x4 x5 : Int} {M : xM} {Q : Int → xM → Prop} (hs : RSh e) (h :
    ∀ M1 : xM, M1 = xup M 59 0 (0 : Int) → 
    (R_isType e d x1 M1 (fun y3 M2 => 
    (rg y3) ∧ ((y3 = 0 → 
      (Q (-1 : Int) M2)) ∧ 
    (¬ (y3 = 0) → 
      ((rg x1) ∧ ((x1 = 0 → 
        (Q (-1 : Int) M2)) ∧ 
      (¬ (x1 = 0) → 
        ((rg x2) ∧ ((x2 < 0 → 
          (Q (-1 : Int) M2)) ∧ 
        (¬ (x2 < 0) → 
          ((rg x2) ∧ (((3 : Int) < x2 → 
            (Q (-1 : Int) M2)) ∧ 
          (¬ ((3 : Int) < x2) → 
            ((0 ≤ x1 ∧ x1 < 8) ∧ 
            ((rg (M2 60 x1)) ∧ (((M2 60 x1) = (6 : Int) → 
              (Q (-1 : Int) M2)) ∧ 
            (¬ ((M2 60 x1) = (6 : Int)) → 
              ((rg (((M2 59 10) + (M2 59 18)) + (M2 59 25))) ∧ (((((M2 59 10) + (M2 59 18)) + (M2 59 25)) ≤ 0 → 
                ((rg x2) ∧ ((x2 ≤ 0 → 
                  (R_maker_68 e d x1 x2 x3 x4 x5 M2 Q)) ∧ 
                (¬ (x2 ≤ 0) → 
                  (R_isType e d x3 M2 (fun y5 M4 => 
                  (rg y5) ∧ ((y5 = 0 → 
                    (Q (-1 : Int) M4)) ∧ 
                  (¬ (y5 = 0) → 
                    (R_maker_68 e d x1 x2 x3 x4 x5 M4 Q))))))))) ∧ 
              (¬ ((((M2 59 10) + (M2 59 18)) + (M2 59 25)) ≤ 0) → 
                (Q (-1 : Int) M2)))))))))))))))))))))) : R_maker_0 e d x1 x2 x3 x4 x5 M Q := by
  intro o6
  refine xGo.in ?_
  refine And.intro (rs_ob hs) ?_
  obtain ⟨M1, hM1⟩ : ∃ z : xM, z = xup M 59 0 (0 : Int) := ⟨_, rfl⟩
  refine xgo_st (e := e) (M := M1) (by subst hM1; rfl) ?_
  replace h := h M1 hM1
  refine And.intro ⟨Nat.le_of_ble_eq_true rfl, Nat.le_of_ble_eq_true rfl, rs_ob hs⟩ ?_
  refine yI_use h (fun y3 M2 h => ?_)
  refine And.intro (h.1) (And.intro (fun c => ?_) (fun c => ?_))
  · replace h := h.2.1 c
    exact yI_ret h
  · replace h := h.2.2 c
    refine And.intro (h.1) (And.intro (fun c => ?_) (fun c => ?_))
    · replace h := h.2.1 c
      exact yI_ret h
    · replace h := h.2.2 c
      refine And.intro (h.1) (And.intro (fun c => ?_) (fun c => ?_))
      · replace h := h.2.1 c
        exact yI_ret h
      · replace h := h.2.2 c
        refine And.intro (⟨h.1, rg_lit (by decide)⟩) (And.intro (fun c => ?_) (fun c => ?_))
        · replace h := h.2.1 c
          exact yI_ret h
        · replace h := h.2.2 c
          refine And.intro (rs_ob hs) ?_
          refine And.intro (xi_ld (rs_1 hs) (h.1)) ?_
          replace h := h.2
          refine And.intro (⟨h.1, rg_lit (by decide)⟩) (And.intro (fun c => ?_) (fun c => ?_))
          · replace h := h.2.1 c
            exact yI_ret h
          · replace h := h.2.2 c
            refine And.intro (rs_ob hs) ?_
            refine And.intro (rs_ob hs) ?_
            refine And.intro (rs_ob hs) ?_
            refine And.intro (h.1) (And.intro (fun c => ?_) (fun c => ?_))
            · replace h := h.2.1 c
              refine And.intro (h.1) (And.intro (fun c => ?_) (fun c => ?_))
              · replace h := h.2.1 c
                exact h _
              · replace h := h.2.2 c
                refine And.intro ⟨Nat.le_of_ble_eq_true rfl, Nat.le_of_ble_eq_true rfl, rs_ob hs⟩ ?_
                refine yI_use h (fun y5 M4 h => ?_)
                refine And.intro (h.1) (And.intro (fun c => ?_) (fun c => ?_))
                · replace h := h.2.1 c
                  exact yI_ret h
                · replace h := h.2.2 c
                  exact h _
            · replace h := h.2.2 c
              exact yI_ret h
theorem t_maker_68 {e : yE} {d : Nat} {x1 x2 x3 x4 x5 : Int} {M : xM} {Q : Int → xM → Prop} (hs : RSh e) (h :
    (rg x2) ∧ ((x2 ≤ (1 : Int) → 
      (R_maker_82 e d x1 x2 x3 x4 x5 M Q)) ∧ 
    (¬ (x2 ≤ (1 : Int)) → 
      (R_isType e d x4 M (fun y2 M1 => 
      (rg y2) ∧ ((y2 = 0 → 
        (Q (-1 : Int) M1)) ∧ 
      (¬ (y2 = 0) → 
        (R_maker_82 e d x1 x2 x3 x4 x5 M1 Q)))))))) : R_maker_68 e d x1 x2 x3 x4 x5 M Q := by
  intro o6
  refine xGo.in ?_
  refine And.intro (⟨h.1, rg_lit (by decide)⟩) (And.intro (fun c => ?_) (fun c => ?_))
  · replace h := h.2.1 c
    exact h _
  · replace h := h.2.2 c
    refine And.intro ⟨Nat.le_of_ble_eq_true rfl, Nat.le_of_ble_eq_true rfl, rs_ob hs⟩ ?_
    refine yI_use h (fun y2 M1 h => ?_)
    refine And.intro (h.1) (And.intro (fun c => ?_) (fun c => ?_))
    · replace h := h.2.1 c
      exact yI_ret h
    · replace h := h.2.2 c
      exact h _
theorem t_maker_82 {e : yE} {d : Nat} {x1 x2 x3 x4 x5 : Int} {M : xM} {Q : Int → xM → Prop} (hs : RSh e) (h :
    (rg x2) ∧ ((x2 ≤ (2 : Int) → 
      (R_maker_98 e d x1 x2 x3 x4 x5 M Q)) ∧ 
    (¬ (x2 ≤ (2 : Int)) → 
      (R_isType e d x5 M (fun y2 M1 => 
      (rg y2) ∧ ((¬ y2 = 0 → 
        (R_maker_98 e d x1 x2 x3 x4 x5 M1 Q)) ∧ 
      (¬ (¬ y2 = 0) → 
        (Q (-1 : Int) M1)))))))) : R_maker_82 e d x1 x2 x3 x4 x5 M Q := by
  intro o6
  refine xGo.in ?_
  refine And.intro (⟨h.1, rg_lit (by decide)⟩) (And.intro (fun c => ?_) (fun c => ?_))
  · replace h := h.2.1 c
    exact h _
  · replace h := h.2.2 c
    refine And.intro ⟨Nat.le_of_ble_eq_true rfl, Nat.le_of_ble_eq_true rfl, rs_ob hs⟩ ?_
    refine yI_use h (fun y2 M1 h => ?_)
    refine And.intro (h.1) (And.intro (fun c => ?_) (fun c => ?_))
    · replace h := h.2.1 c
      exact h _
    · replace h := h.2.2 c
      exact yI_ret h
theorem t_maker_98 {e : yE} {d : Nat} {x1 x2 x3 x4 x5 : Int} {M : xM} {Q : Int → xM → Prop} (hs : RSh e) (h :
    (0 ≤ x1 ∧ x1 < 8) ∧ 
    ((0 ≤ (((6 : Int) * x1) + (M 60 x1)) ∧ (((6 : Int) * x1) + (M 60 x1)) < 48) ∧ 
    (∀ M1 : xM, M1 = xup M 61 (((6 : Int) * x1) + (M 60 x1)) x2 → 
    ((0 ≤ ((3 : Int) * (((6 : Int) * x1) + (M 60 x1))) ∧ ((3 : Int) * (((6 : Int) * x1) + (M 60 x1))) < 144) ∧ 
    (∀ M2 : xM, M2 = xup M1 62 ((3 : Int) * (((6 : Int) * x1) + (M 60 x1))) x3 → 
    ((0 ≤ (((3 : Int) * (((6 : Int) * x1) + (M 60 x1))) + (1 : Int)) ∧ (((3 : Int) * (((6 : Int) * x1) + (M 60 x1))) + (1 : Int)) < 144) ∧ 
    (∀ M3 : xM, M3 = xup M2 62 (((3 : Int) * (((6 : Int) * x1) + (M 60 x1))) + (1 : Int)) x4 → 
    ((0 ≤ (((3 : Int) * (((6 : Int) * x1) + (M 60 x1))) + (2 : Int)) ∧ (((3 : Int) * (((6 : Int) * x1) + (M 60 x1))) + (2 : Int)) < 144) ∧ 
    (∀ M4 : xM, M4 = xup M3 62 (((3 : Int) * (((6 : Int) * x1) + (M 60 x1))) + (2 : Int)) x5 → 
    ((0 ≤ x1 ∧ x1 < 8) ∧ 
    ((0 ≤ x1 ∧ x1 < 8) ∧ 
    (∀ M5 : xM, M5 = xup M4 60 x1 ((M4 60 x1) + (1 : Int)) → 
    (R_findPlains e d  M5 (fun M6 => 
    (0 ≤ x1 ∧ x1 < 8) ∧ 
    (Q ((M6 60 x1) - (1 : Int)) M6))))))))))))))) : R_maker_98 e d x1 x2 x3 x4 x5 M Q := by
  intro o6
  refine xGo.in ?_
  refine And.intro (rs_ob hs) ?_
  refine And.intro (xi_ld (rs_1 hs) (h.1)) ?_
  replace h := h.2
  refine And.intro (rs_ob hs) ?_
  refine And.intro (xi_st (rs_2 hs) (h.1)) ?_
  replace h := h.2
  obtain ⟨M1, hM1⟩ : ∃ z : xM, z = xup M 61 (((6 : Int) * x1) + (M 60 x1)) x2 := ⟨_, rfl⟩
  refine xgo_st (e := e) (M := M1) (by subst hM1; rfl) ?_
  replace h := h M1 hM1
  refine And.intro (rs_ob hs) ?_
  refine And.intro (xi_st (rs_3 hs) (h.1)) ?_
  replace h := h.2
  obtain ⟨M2, hM2⟩ : ∃ z : xM, z = xup M1 62 ((3 : Int) * (((6 : Int) * x1) + (M 60 x1))) x3 := ⟨_, rfl⟩
  refine xgo_st (e := e) (M := M2) (by subst hM2; rfl) ?_
  replace h := h M2 hM2
  refine And.intro (rs_ob hs) ?_
  refine And.intro (xi_st (rs_3 hs) (h.1)) ?_
  replace h := h.2
  obtain ⟨M3, hM3⟩ : ∃ z : xM, z = xup M2 62 (((3 : Int) * (((6 : Int) * x1) + (M 60 x1))) + (1 : Int)) x4 := ⟨_, rfl⟩
  refine xgo_st (e := e) (M := M3) (by subst hM3; rfl) ?_
  replace h := h M3 hM3
  refine And.intro (rs_ob hs) ?_
  refine And.intro (xi_st (rs_3 hs) (h.1)) ?_
  replace h := h.2
  obtain ⟨M4, hM4⟩ : ∃ z : xM, z = xup M3 62 (((3 : Int) * (((6 : Int) * x1) + (M 60 x1))) + (2 : Int)) x5 := ⟨_, rfl⟩
  refine xgo_st (e := e) (M := M4) (by subst hM4; rfl) ?_
  replace h := h M4 hM4
  refine And.intro (rs_ob hs) ?_
  refine And.intro (xi_ld (rs_1 hs) (h.1)) ?_
  replace h := h.2
  refine And.intro (xi_st (rs_1 hs) (h.1)) ?_
  replace h := h.2
  obtain ⟨M5, hM5⟩ : ∃ z : xM, z = xup M4 60 x1 ((M4 60 x1) + (1 : Int)) := ⟨_, rfl⟩
  refine xgo_st (e := e) (M := M5) (by subst hM5; rfl) ?_
  replace h := h M5 hM5
  refine And.intro ⟨Nat.le_of_ble_eq_true rfl, Nat.le_of_ble_eq_true rfl, rs_ob hs⟩ ?_
  refine yV_use h (fun _ M6 h => ?_)
  refine And.intro (rs_ob hs) ?_
  refine And.intro (xi_ld (rs_1 hs) (h.1)) ?_
  replace h := h.2
  exact yI_ret h
theorem t_maker {e : yE} {d : Nat} {x1 : Int} {x2 : Int} {x3 : Int} {x4 : Int} {x5 : Int} {M : xM} {Q : Int → xM → Prop} (h : R_maker_0 e d x1 x2 x3 x4 x5 M Q) : R_maker e (d + 1) x1 x2 x3 x4 x5 M Q := h _
def R_madeSize_0 (e : yE) (d : Nat) (x1 x2 : Int) (M : xM) (Q : Int → xM → Prop) : Prop := ∀ (o3 o4 o5 : Option xV), xGo xft xNf xmt xtr d 104 0 [some (.inr (some 59)), some (.inl x1), some (.inl x2), o3, o4, o5] [] (yS e M) (yI e Q)
def R_madeSize_5 (e : yE) (d : Nat) (x1 x2 x3 x4 : Int) (M : xM) (Q : Int → xM → Prop) : Prop := ∀ (o5 : Option xV), xGo xft xNf xmt xtr d 104 5 [some (.inr (some 59)), some (.inl x1), some (.inl x2), some (.inl x3), some (.inl x4), o5] [] (yS e M) (yI e Q)
theorem t_madeSize_0 {e : yE} {d : Nat} {x1 x2 : Int} {M : xM} {Q : Int → xM → Prop} (hs : RSh e) (h :
    R_madeSize_5 e d x1 x2 (1 : Int) (0 : Int) M Q) : R_madeSize_0 e d x1 x2 M Q := by
  intro o3 o4 o5
  refine xGo.in ?_
  exact h _
theorem t_madeSize_5 {e : yE} {d : Nat} {x1 x2 x3 x4 : Int} {M : xM} {Q : Int → xM → Prop} (hs : RSh e) (h :
    (0 ≤ (((6 : Int) * x1) + x2) ∧ (((6 : Int) * x1) + x2) < 48) ∧ 
    ((rg x4 ∧ rg (M 61 (((6 : Int) * x1) + x2))) ∧ (((M 61 (((6 : Int) * x1) + x2)) ≤ x4 → 
      (Q x3 M)) ∧ 
    (¬ ((M 61 (((6 : Int) * x1) + x2)) ≤ x4) → 
      ((0 ≤ (((3 : Int) * (((6 : Int) * x1) + x2)) + x4) ∧ (((3 : Int) * (((6 : Int) * x1) + x2)) + x4) < 144) ∧ 
      ((0 ≤ (M 62 (((3 : Int) * (((6 : Int) * x1) + x2)) + x4)) ∧ (M 62 (((3 : Int) * (((6 : Int) * x1) + x2)) + x4)) < 8) ∧ 
      ((rg (M 63 (M 62 (((3 : Int) * (((6 : Int) * x1) + x2)) + x4)))) ∧ ((¬ (M 63 (M 62 (((3 : Int) * (((6 : Int) * x1) + x2)) + x4))) = 0 → 
        (R_madeSize_5 e d x1 x2 (x3 + (M 63 (M 62 (((3 : Int) * (((6 : Int) * x1) + x2)) + x4)))) (x4 + 1) M Q)) ∧ 
      (¬ (¬ (M 63 (M 62 (((3 : Int) * (((6 : Int) * x1) + x2)) + x4))) = 0) → 
        (Q (0 : Int) M)))))))))) : R_madeSize_5 e d x1 x2 x3 x4 M Q := by
  intro o5
  refine xGo.in ?_
  refine And.intro (rs_ob hs) ?_
  refine And.intro (xi_ld (rs_2 hs) (h.1)) ?_
  replace h := h.2
  refine And.intro (⟨h.1.1, h.1.2⟩) (And.intro (fun c => ?_) (fun c => ?_))
  · replace h := h.2.1 c
    exact yI_ret h
  · replace h := h.2.2 c
    refine And.intro (rs_ob hs) ?_
    refine And.intro (rs_ob hs) ?_
    refine And.intro (xi_ld (rs_3 hs) (h.1)) ?_
    replace h := h.2
    refine And.intro (xi_ld (rs_4 hs) (h.1)) ?_
    replace h := h.2
    refine And.intro (h.1) (And.intro (fun c => ?_) (fun c => ?_))
    · replace h := h.2.1 c
      exact h _
    · replace h := h.2.2 c
      exact yI_ret h
theorem t_madeSize {e : yE} {d : Nat} {x1 : Int} {x2 : Int} {M : xM} {Q : Int → xM → Prop} (h : R_madeSize_0 e d x1 x2 M Q) : R_madeSize e (d + 1) x1 x2 M Q := h _ _ _
def R_findPlains_0 (e : yE) (d : Nat) (M : xM) (Q : xM → Prop) : Prop := ∀ (o1 o2 o3 o4 : Option xV), xGo xft xNf xmt xtr d 105 0 [some (.inr (some 59)), o1, o2, o3, o4] [] (yS e M) (yV e Q)
def R_findPlains_2 (e : yE) (d : Nat) (x1 : Int) (M : xM) (Q : xM → Prop) : Prop := ∀ (o2 o3 o4 : Option xV), xGo xft xNf xmt xtr d 105 2 [some (.inr (some 59)), some (.inl x1), o2, o3, o4] [] (yS e M) (yV e Q)
def R_findPlains_23 (e : yE) (d : Nat) (x1 : Int) (M : xM) (Q : xM → Prop) : Prop := ∀ (o2 o3 o4 : Option xV), xGo xft xNf xmt xtr d 105 23 [some (.inr (some 59)), some (.inl x1), o2, o3, o4] [] (yS e M) (yV e Q)
def R_findPlains_31 (e : yE) (d : Nat) (x1 x2 : Int) (M : xM) (Q : xM → Prop) : Prop := ∀ (o3 o4 : Option xV), xGo xft xNf xmt xtr d 105 31 [some (.inr (some 59)), some (.inl x1), some (.inl x2), o3, o4] [] (yS e M) (yV e Q)
def R_findPlains_41 (e : yE) (d : Nat) (x1 x2 x3 : Int) (M : xM) (Q : xM → Prop) : Prop := ∀ (o4 : Option xV), xGo xft xNf xmt xtr d 105 41 [some (.inr (some 59)), some (.inl x1), some (.inl x2), some (.inl x3), o4] [] (yS e M) (yV e Q)
def R_findPlains_84 (e : yE) (d : Nat) (x2 x3 x4 : Int) (M : xM) (Q : xM → Prop) : Prop := ∀ (o1 : Option xV), xGo xft xNf xmt xtr d 105 84 [some (.inr (some 59)), o1, some (.inl x2), some (.inl x3), some (.inl x4)] [] (yS e M) (yV e Q)
theorem t_findPlains_0 {e : yE} {d : Nat} {M : xM} {Q : xM → Prop} (hs : RSh e) (h :
    R_findPlains_2 e d (1 : Int) M Q) : R_findPlains_0 e d  M Q := by
  intro o1 o2 o3 o4
  refine xGo.in ?_
  exact h _ _ _
theorem t_findPlains_2 {e : yE} {d : Nat} {x1 : Int} {M : xM} {Q : xM → Prop} (hs : RSh e) (h :
    (rg x1) ∧ (((8 : Int) ≤ x1 → 
      (R_findPlains_23 e d (1 : Int) M Q)) ∧ 
    (¬ ((8 : Int) ≤ x1) → 
      ((0 ≤ x1 ∧ x1 < 8) ∧ 
      (∀ M1 : xM, M1 = xup M 63 x1 (0 : Int) → 
      (R_findPlains_2 e d (x1 + 1) M1 Q)))))) : R_findPlains_2 e d x1 M Q := by
  intro o2 o3 o4
  refine xGo.in ?_
  refine And.intro (⟨h.1, rg_lit (by decide)⟩) (And.intro (fun c => ?_) (fun c => ?_))
  · replace h := h.2.1 c
    exact h _ _ _
  · replace h := h.2.2 c
    refine And.intro (rs_ob hs) ?_
    refine And.intro (xi_st (rs_4 hs) (h.1)) ?_
    replace h := h.2
    obtain ⟨M1, hM1⟩ : ∃ z : xM, z = xup M 63 x1 (0 : Int) := ⟨_, rfl⟩
    refine xgo_st (e := e) (M := M1) (by subst hM1; rfl) ?_
    replace h := h M1 hM1
    exact h _ _ _
theorem t_findPlains_23 {e : yE} {d : Nat} {x1 : Int} {M : xM} {Q : xM → Prop} (hs : RSh e) (h :
    (rg x1) ∧ ((x1 = 0 → 
      (Q M)) ∧ 
    (¬ (x1 = 0) → 
      (R_findPlains_31 e d (0 : Int) (1 : Int) M Q)))) : R_findPlains_23 e d x1 M Q := by
  intro o2 o3 o4
  refine xGo.in ?_
  refine And.intro (h.1) (And.intro (fun c => ?_) (fun c => ?_))
  · replace h := h.2.1 c
    exact yV_ret (r := .inl 0) h
  · replace h := h.2.2 c
    exact h _ _
theorem t_findPlains_31 {e : yE} {d : Nat} {x1 x2 : Int} {M : xM} {Q : xM → Prop} (hs : RSh e) (h :
    (rg x2 ∧ rg (M 59 1)) ∧ (((M 59 1) ≤ x2 → 
      (R_findPlains_23 e d x1 M Q)) ∧ 
    (¬ ((M 59 1) ≤ x2) → 
      (R_findPlains_41 e d x1 x2 (0 : Int) M Q)))) : R_findPlains_31 e d x1 x2 M Q := by
  intro o3 o4
  refine xGo.in ?_
  refine And.intro (rs_ob hs) ?_
  refine And.intro (⟨h.1.1, h.1.2⟩) (And.intro (fun c => ?_) (fun c => ?_))
  · replace h := h.2.1 c
    exact h _ _ _
  · replace h := h.2.2 c
    exact h _
theorem t_findPlains_41 {e : yE} {d : Nat} {x1 x2 x3 : Int} {M : xM} {Q : xM → Prop} (hs : RSh e) (h :
    (0 ≤ x2 ∧ x2 < 8) ∧ 
    ((rg x3 ∧ rg (M 60 x2)) ∧ (((M 60 x2) ≤ x3 → 
      (R_findPlains_31 e d x1 (x2 + 1) M Q)) ∧ 
    (¬ ((M 60 x2) ≤ x3) → 
      (R_madeSize e d x2 x3 M (fun y2 M1 => 
      (rg y2) ∧ ((y2 ≤ 0 → 
        (R_findPlains_41 e d x1 x2 (x3 + 1) M1 Q)) ∧ 
      (¬ (y2 ≤ 0) → 
        ((0 ≤ x2 ∧ x2 < 8) ∧ 
        ((rg (M1 63 x2)) ∧ (((M1 63 x2) = 0 → 
          (R_findPlains_84 e d x2 x3 y2 M1 Q)) ∧ 
        (¬ ((M1 63 x2) = 0) → 
          ((0 ≤ x2 ∧ x2 < 8) ∧ 
          ((rg y2 ∧ rg (M1 63 x2)) ∧ (((M1 63 x2) ≤ y2 → 
            (R_findPlains_41 e d x1 x2 (x3 + 1) M1 Q)) ∧ 
          (¬ ((M1 63 x2) ≤ y2) → 
            (R_findPlains_84 e d x2 x3 y2 M1 Q))))))))))))))))) : R_findPlains_41 e d x1 x2 x3 M Q := by
  intro o4
  refine xGo.in ?_
  refine And.intro (rs_ob hs) ?_
  refine And.intro (xi_ld (rs_1 hs) (h.1)) ?_
  replace h := h.2
  refine And.intro (⟨h.1.1, h.1.2⟩) (And.intro (fun c => ?_) (fun c => ?_))
  · replace h := h.2.1 c
    exact h _ _
  · replace h := h.2.2 c
    refine And.intro ⟨Nat.le_of_ble_eq_true rfl, Nat.le_of_ble_eq_true rfl, rs_ob hs⟩ ?_
    refine yI_use h (fun y2 M1 h => ?_)
    refine And.intro (h.1) (And.intro (fun c => ?_) (fun c => ?_))
    · replace h := h.2.1 c
      exact h _
    · replace h := h.2.2 c
      refine And.intro (rs_ob hs) ?_
      refine And.intro (xi_ld (rs_4 hs) (h.1)) ?_
      replace h := h.2
      refine And.intro (h.1) (And.intro (fun c => ?_) (fun c => ?_))
      · replace h := h.2.1 c
        exact h _
      · replace h := h.2.2 c
        refine And.intro (rs_ob hs) ?_
        refine And.intro (xi_ld (rs_4 hs) (h.1)) ?_
        replace h := h.2
        refine And.intro (⟨h.1.1, h.1.2⟩) (And.intro (fun c => ?_) (fun c => ?_))
        · replace h := h.2.1 c
          exact h _
        · replace h := h.2.2 c
          exact h _
theorem t_findPlains_84 {e : yE} {d : Nat} {x2 x3 x4 : Int} {M : xM} {Q : xM → Prop} (hs : RSh e) (h :
    (0 ≤ x2 ∧ x2 < 8) ∧ 
    (∀ M1 : xM, M1 = xup M 63 x2 x4 → 
    (R_findPlains_41 e d (1 : Int) x2 (x3 + 1) M1 Q))) : R_findPlains_84 e d x2 x3 x4 M Q := by
  intro o1
  refine xGo.in ?_
  refine And.intro (rs_ob hs) ?_
  refine And.intro (xi_st (rs_4 hs) (h.1)) ?_
  replace h := h.2
  obtain ⟨M1, hM1⟩ : ∃ z : xM, z = xup M 63 x2 x4 := ⟨_, rfl⟩
  refine xgo_st (e := e) (M := M1) (by subst hM1; rfl) ?_
  replace h := h M1 hM1
  exact h _
theorem t_findPlains {e : yE} {d : Nat} {M : xM} {Q : xM → Prop} (h : R_findPlains_0 e d  M Q) : R_findPlains e (d + 1)  M Q := h _ _ _ _
def R_isMaker_0 (e : yE) (d : Nat) (x1 x2 : Int) (M : xM) (Q : Int → xM → Prop) : Prop := xGo xft xNf xmt xtr d 106 0 [some (.inr (some 59)), some (.inl x1), some (.inl x2)] [] (yS e M) (yI e Q)
theorem t_isMaker_0 {e : yE} {d : Nat} {x1 x2 : Int} {M : xM} {Q : Int → xM → Prop} (hs : RSh e) (h :
    R_isType e d x1 M (fun y2 M1 => 
    (rg y2) ∧ ((y2 = 0 → 
      (Q (0 : Int) M1)) ∧ 
    (¬ (y2 = 0) → 
      ((rg x2) ∧ ((x2 < 0 → 
        (Q (0 : Int) M1)) ∧ 
      (¬ (x2 < 0) → 
        ((0 ≤ x1 ∧ x1 < 8) ∧ 
        ((rg x2 ∧ rg (M1 60 x1)) ∧ (((M1 60 x1) ≤ x2 → 
          (Q (0 : Int) M1)) ∧ 
        (¬ ((M1 60 x1) ≤ x2) → 
          (Q (1 : Int) M1)))))))))))) : R_isMaker_0 e d x1 x2 M Q := by
  refine xGo.in ?_
  refine And.intro ⟨Nat.le_of_ble_eq_true rfl, Nat.le_of_ble_eq_true rfl, rs_ob hs⟩ ?_
  refine yI_use h (fun y2 M1 h => ?_)
  refine And.intro (h.1) (And.intro (fun c => ?_) (fun c => ?_))
  · replace h := h.2.1 c
    exact And.intro (by decide) (yI_ret h)
  · replace h := h.2.2 c
    refine And.intro (h.1) (And.intro (fun c => ?_) (fun c => ?_))
    · replace h := h.2.1 c
      exact And.intro (by decide) (yI_ret h)
    · replace h := h.2.2 c
      refine And.intro (rs_ob hs) ?_
      refine And.intro (xi_ld (rs_1 hs) (h.1)) ?_
      replace h := h.2
      refine And.intro (⟨h.1.1, h.1.2⟩) (And.intro (fun c => ?_) (fun c => ?_))
      · replace h := h.2.1 c
        exact And.intro (by decide) (yI_ret h)
      · replace h := h.2.2 c
        exact And.intro (by decide) (yI_ret h)
theorem t_isMaker {e : yE} {d : Nat} {x1 : Int} {x2 : Int} {M : xM} {Q : Int → xM → Prop} (h : R_isMaker_0 e d x1 x2 M Q) : R_isMaker e (d + 1) x1 x2 M Q := h
def R_countOf_0 (e : yE) (d : Nat) (x1 x2 : Int) (M : xM) (Q : Int → xM → Prop) : Prop := xGo xft xNf xmt xtr d 107 0 [some (.inr (some 59)), some (.inl x1), some (.inl x2)] [] (yS e M) (yI e Q)
theorem t_countOf_0 {e : yE} {d : Nat} {x1 x2 : Int} {M : xM} {Q : Int → xM → Prop} (hs : RSh e) (h :
    (0 ≤ (((6 : Int) * x1) + x2) ∧ (((6 : Int) * x1) + x2) < 48) ∧ 
    (Q (M 61 (((6 : Int) * x1) + x2)) M)) : R_countOf_0 e d x1 x2 M Q := by
  refine xGo.in ?_
  refine And.intro (rs_ob hs) ?_
  refine And.intro (xi_ld (rs_2 hs) (h.1)) ?_
  replace h := h.2
  exact yI_ret h
theorem t_countOf {e : yE} {d : Nat} {x1 : Int} {x2 : Int} {M : xM} {Q : Int → xM → Prop} (h : R_countOf_0 e d x1 x2 M Q) : R_countOf e (d + 1) x1 x2 M Q := h
def R_partType_0 (e : yE) (d : Nat) (x1 x2 x3 : Int) (M : xM) (Q : Int → xM → Prop) : Prop := xGo xft xNf xmt xtr d 108 0 [some (.inr (some 59)), some (.inl x1), some (.inl x2), some (.inl x3)] [] (yS e M) (yI e Q)
theorem t_partType_0 {e : yE} {d : Nat} {x1 x2 x3 : Int} {M : xM} {Q : Int → xM → Prop} (hs : RSh e) (h :
    (0 ≤ (((3 : Int) * (((6 : Int) * x1) + x2)) + x3) ∧ (((3 : Int) * (((6 : Int) * x1) + x2)) + x3) < 144) ∧ 
    (Q (M 62 (((3 : Int) * (((6 : Int) * x1) + x2)) + x3)) M)) : R_partType_0 e d x1 x2 x3 M Q := by
  refine xGo.in ?_
  refine And.intro (rs_ob hs) ?_
  refine And.intro (xi_ld (rs_3 hs) (h.1)) ?_
  replace h := h.2
  exact yI_ret h
theorem t_partType {e : yE} {d : Nat} {x1 : Int} {x2 : Int} {x3 : Int} {M : xM} {Q : Int → xM → Prop} (h : R_partType_0 e d x1 x2 x3 M Q) : R_partType e (d + 1) x1 x2 x3 M Q := h
def R_addValue_0 (e : yE) (d : Nat) (x1 x2 x3 : Int) (M : xM) (Q : Int → xM → Prop) : Prop := xGo xft xNf xmt xtr d 109 0 [some (.inr (some 59)), some (.inl x1), some (.inl x2), some (.inl x3)] [] (yS e M) (yI e Q)
theorem t_addValue_0 {e : yE} {d : Nat} {x1 x2 x3 : Int} {M : xM} {Q : Int → xM → Prop} (hs : RSh e) (h :
    (0 ≤ (M 59 10) ∧ (M 59 10) < 300) ∧ 
    (∀ M1 : xM, M1 = xup M 64 (M 59 10) x1 → 
    ((0 ≤ (M1 59 10) ∧ (M1 59 10) < 300) ∧ 
    (∀ M2 : xM, M2 = xup M1 65 (M1 59 10) x2 → 
    ((0 ≤ (M2 59 10) ∧ (M2 59 10) < 300) ∧ 
    (∀ M3 : xM, M3 = xup M2 67 (M2 59 10) x3 → 
    (∀ M4 : xM, M4 = xup M3 59 10 ((M3 59 10) + (1 : Int)) → 
    (Q ((M4 59 10) - (1 : Int)) M4)))))))) : R_addValue_0 e d x1 x2 x3 M Q := by
  refine xGo.in ?_
  refine And.intro (rs_ob hs) ?_
  refine And.intro (rs_ob hs) ?_
  refine And.intro (xi_st (rs_5 hs) (h.1)) ?_
  replace h := h.2
  obtain ⟨M1, hM1⟩ : ∃ z : xM, z = xup M 64 (M 59 10) x1 := ⟨_, rfl⟩
  refine xgo_st (e := e) (M := M1) (by subst hM1; rfl) ?_
  replace h := h M1 hM1
  refine And.intro (rs_ob hs) ?_
  refine And.intro (rs_ob hs) ?_
  refine And.intro (xi_st (rs_6 hs) (h.1)) ?_
  replace h := h.2
  obtain ⟨M2, hM2⟩ : ∃ z : xM, z = xup M1 65 (M1 59 10) x2 := ⟨_, rfl⟩
  refine xgo_st (e := e) (M := M2) (by subst hM2; rfl) ?_
  replace h := h M2 hM2
  refine And.intro (rs_ob hs) ?_
  refine And.intro (rs_ob hs) ?_
  refine And.intro (xi_st (rs_8 hs) (h.1)) ?_
  replace h := h.2
  obtain ⟨M3, hM3⟩ : ∃ z : xM, z = xup M2 67 (M2 59 10) x3 := ⟨_, rfl⟩
  refine xgo_st (e := e) (M := M3) (by subst hM3; rfl) ?_
  replace h := h M3 hM3
  refine And.intro (rs_ob hs) ?_
  refine And.intro (rs_ob hs) ?_
  obtain ⟨M4, hM4⟩ : ∃ z : xM, z = xup M3 59 10 ((M3 59 10) + (1 : Int)) := ⟨_, rfl⟩
  refine xgo_st (e := e) (M := M4) (by subst hM4; rfl) ?_
  replace h := h M4 hM4
  refine And.intro (rs_ob hs) ?_
  exact yI_ret h
theorem t_addValue {e : yE} {d : Nat} {x1 : Int} {x2 : Int} {x3 : Int} {M : xM} {Q : Int → xM → Prop} (h : R_addValue_0 e d x1 x2 x3 M Q) : R_addValue e (d + 1) x1 x2 x3 M Q := h
def R_number_0 (e : yE) (d : Nat) (x1 : Int) (M : xM) (Q : Int → xM → Prop) : Prop := xGo xft xNf xmt xtr d 110 0 [some (.inr (some 59)), some (.inl x1)] [] (yS e M) (yI e Q)
theorem t_number_0 {e : yE} {d : Nat} {x1 : Int} {M : xM} {Q : Int → xM → Prop} (hs : RSh e) (h :
    ∀ M1 : xM, M1 = xup M 59 0 (0 : Int) → 
    ((rg (M1 59 10)) ∧ ((¬ (M1 59 10) = (300 : Int) → 
      (R_addValue e d (0 : Int) x1 (1 : Int) M1 (fun y3 M2 => 
      Q y3 M2))) ∧ 
    (¬ (¬ (M1 59 10) = (300 : Int)) → 
      (Q (-1 : Int) M1))))) : R_number_0 e d x1 M Q := by
  refine xGo.in ?_
  refine And.intro (rs_ob hs) ?_
  obtain ⟨M1, hM1⟩ : ∃ z : xM, z = xup M 59 0 (0 : Int) := ⟨_, rfl⟩
  refine xgo_st (e := e) (M := M1) (by subst hM1; rfl) ?_
  replace h := h M1 hM1
  refine And.intro (rs_ob hs) ?_
  refine And.intro (⟨h.1, rg_lit (by decide)⟩) (And.intro (fun c => ?_) (fun c => ?_))
  · replace h := h.2.1 c
    refine And.intro ⟨Nat.le_of_ble_eq_true rfl, Nat.le_of_ble_eq_true rfl, rs_ob hs⟩ ?_
    refine yI_use h (fun y3 M2 h => ?_)
    exact yI_ret h
  · replace h := h.2.2 c
    exact yI_ret h
theorem t_number {e : yE} {d : Nat} {x1 : Int} {M : xM} {Q : Int → xM → Prop} (h : R_number_0 e d x1 M Q) : R_number e (d + 1) x1 M Q := h
def R_isValueOf_0 (e : yE) (d : Nat) (x1 x2 : Int) (M : xM) (Q : Int → xM → Prop) : Prop := xGo xft xNf xmt xtr d 111 0 [some (.inr (some 59)), some (.inl x1), some (.inl x2)] [] (yS e M) (yI e Q)
theorem t_isValueOf_0 {e : yE} {d : Nat} {x1 x2 : Int} {M : xM} {Q : Int → xM → Prop} (hs : RSh e) (h :
    (rg x1) ∧ ((x1 < 0 → 
      (Q (0 : Int) M)) ∧ 
    (¬ (x1 < 0) → 
      ((rg x1 ∧ rg (M 59 10)) ∧ (((M 59 10) ≤ x1 → 
        (Q (0 : Int) M)) ∧ 
      (¬ ((M 59 10) ≤ x1) → 
        ((0 ≤ x1 ∧ x1 < 300) ∧ 
        ((rg (M 64 x1) ∧ rg x2) ∧ ((¬ (M 64 x1) = x2 → 
          (Q (0 : Int) M)) ∧ 
        (¬ (¬ (M 64 x1) = x2) → 
          (Q (1 : Int) M))))))))))) : R_isValueOf_0 e d x1 x2 M Q := by
  refine xGo.in ?_
  refine And.intro (h.1) (And.intro (fun c => ?_) (fun c => ?_))
  · replace h := h.2.1 c
    exact And.intro (by decide) (yI_ret h)
  · replace h := h.2.2 c
    refine And.intro (rs_ob hs) ?_
    refine And.intro (⟨h.1.1, h.1.2⟩) (And.intro (fun c => ?_) (fun c => ?_))
    · replace h := h.2.1 c
      exact And.intro (by decide) (yI_ret h)
    · replace h := h.2.2 c
      refine And.intro (rs_ob hs) ?_
      refine And.intro (xi_ld (rs_5 hs) (h.1)) ?_
      replace h := h.2
      refine And.intro (⟨h.1.1, h.1.2⟩) (And.intro (fun c => ?_) (fun c => ?_))
      · replace h := h.2.1 c
        exact And.intro (by decide) (yI_ret h)
      · replace h := h.2.2 c
        exact And.intro (by decide) (yI_ret h)
theorem t_isValueOf {e : yE} {d : Nat} {x1 : Int} {x2 : Int} {M : xM} {Q : Int → xM → Prop} (h : R_isValueOf_0 e d x1 x2 M Q) : R_isValueOf e (d + 1) x1 x2 M Q := h
def R_pick_0 (e : yE) (d : Nat) (x0 x1 x2 x3 : Int) (M : xM) (Q : Int → xM → Prop) : Prop := xGo xft xNf xmt xtr d 112 0 [some (.inl x0), some (.inl x1), some (.inl x2), some (.inl x3)] [] (yS e M) (yI e Q)
theorem t_pick_0 {e : yE} {d : Nat} {x0 x1 x2 x3 : Int} {M : xM} {Q : Int → xM → Prop} (h :
    (rg x0) ∧ ((¬ x0 = 0 → 
      ((rg x0) ∧ ((¬ x0 = (1 : Int) → 
        (Q x3 M)) ∧ 
      (¬ (¬ x0 = (1 : Int)) → 
        (Q x2 M))))) ∧ 
    (¬ (¬ x0 = 0) → 
      (Q x1 M)))) : R_pick_0 e d x0 x1 x2 x3 M Q := by
  refine xGo.in ?_
  refine And.intro (h.1) (And.intro (fun c => ?_) (fun c => ?_))
  · replace h := h.2.1 c
    refine And.intro (⟨h.1, rg_lit (by decide)⟩) (And.intro (fun c => ?_) (fun c => ?_))
    · replace h := h.2.1 c
      exact yI_ret h
    · replace h := h.2.2 c
      exact yI_ret h
  · replace h := h.2.2 c
    exact yI_ret h
theorem t_pick {e : yE} {d : Nat} {x0 : Int} {x1 : Int} {x2 : Int} {x3 : Int} {M : xM} {Q : Int → xM → Prop} (h : R_pick_0 e d x0 x1 x2 x3 M Q) : R_pick e (d + 1) x0 x1 x2 x3 M Q := h
def R_make_0 (e : yE) (d : Nat) (x1 x2 x3 x4 x5 : Int) (M : xM) (Q : Int → xM → Prop) : Prop := ∀ (o6 o7 o8 : Option xV), xGo xft xNf xmt xtr d 113 0 [some (.inr (some 59)), some (.inl x1), some (.inl x2), some (.inl x3), some (.inl x4), some (.inl x5), o6, o7, o8] [] (yS e M) (yI e Q)
def R_make_32 (e : yE) (d : Nat) (x1 x2 x3 x4 x5 x6 x7 : Int) (M : xM) (Q : Int → xM → Prop) : Prop := ∀ (o8 : Option xV), xGo xft xNf xmt xtr d 113 32 [some (.inr (some 59)), some (.inl x1), some (.inl x2), some (.inl x3), some (.inl x4), some (.inl x5), some (.inl x6), some (.inl x7), o8] [] (yS e M) (yI e Q)
def R_make_114 (e : yE) (d : Nat) (x1 x2 x3 x4 x5 x7 x8 : Int) (M : xM) (Q : Int → xM → Prop) : Prop := ∀ (o6 : Option xV), xGo xft xNf xmt xtr d 113 114 [some (.inr (some 59)), some (.inl x1), some (.inl x2), some (.inl x3), some (.inl x4), some (.inl x5), o6, some (.inl x7), some (.inl x8)] [] (yS e M) (yI e Q)
theorem t_make_0 {e : yE} {d : Nat} {x1 x2 x3 x4 x5 : Int} {M : xM} {Q : Int → xM → Prop} (hs : RSh e) (h :
    ∀ M1 : xM, M1 = xup M 59 0 (0 : Int) → 
    (R_isMaker e d x1 x2 M1 (fun y3 M2 => 
    (rg y3) ∧ ((y3 = 0 → 
      (Q (-1 : Int) M2)) ∧ 
    (¬ (y3 = 0) → 
      ((rg (M2 59 10)) ∧ ((¬ (M2 59 10) = (300 : Int) → 
        (R_make_32 e d x1 x2 x3 x4 x5 (1 : Int) (0 : Int) M2 Q)) ∧ 
      (¬ (¬ (M2 59 10) = (300 : Int)) → 
        (Q (-1 : Int) M2))))))))) : R_make_0 e d x1 x2 x3 x4 x5 M Q := by
  intro o6 o7 o8
  refine xGo.in ?_
  refine And.intro (rs_ob hs) ?_
  obtain ⟨M1, hM1⟩ : ∃ z : xM, z = xup M 59 0 (0 : Int) := ⟨_, rfl⟩
  refine xgo_st (e := e) (M := M1) (by subst hM1; rfl) ?_
  replace h := h M1 hM1
  refine And.intro ⟨Nat.le_of_ble_eq_true rfl, Nat.le_of_ble_eq_true rfl, rs_ob hs⟩ ?_
  refine yI_use h (fun y3 M2 h => ?_)
  refine And.intro (h.1) (And.intro (fun c => ?_) (fun c => ?_))
  · replace h := h.2.1 c
    exact yI_ret h
  · replace h := h.2.2 c
    refine And.intro (rs_ob hs) ?_
    refine And.intro (⟨h.1, rg_lit (by decide)⟩) (And.intro (fun c => ?_) (fun c => ?_))
    · replace h := h.2.1 c
      exact h _
    · replace h := h.2.2 c
      exact yI_ret h
theorem t_make_32 {e : yE} {d : Nat} {x1 x2 x3 x4 x5 x6 x7 : Int} {M : xM} {Q : Int → xM → Prop} (hs : RSh e) (h :
    R_countOf e d x1 x2 M (fun y2 M1 => 
    (rg x7 ∧ rg y2) ∧ ((y2 ≤ x7 → 
      ((rg x6) ∧ ((x6 ≤ (100 : Int) → 
        (R_addValue e d x1 x2 x6 M1 (fun y4 M3 => 
        R_make_114 e d x1 x2 x3 x4 x5 y4 (0 : Int) M3 Q))) ∧ 
      (¬ (x6 ≤ (100 : Int)) → 
        (Q (-1 : Int) M1))))) ∧ 
    (¬ (y2 ≤ x7) → 
      (R_pick e d x7 x3 x4 x5 M1 (fun y6 M5 => 
      R_partType e d x1 x2 x7 M5 (fun y8 M7 => 
      R_isValueOf e d y6 y8 M7 (fun y10 M9 => 
      (rg y10) ∧ ((¬ y10 = 0 → 
        ((0 ≤ y6 ∧ y6 < 300) ∧ 
        (R_make_32 e d x1 x2 x3 x4 x5 (x6 + (M9 67 y6)) (x7 + 1) M9 Q))) ∧ 
      (¬ (¬ y10 = 0) → 
        (Q (-1 : Int) M9))))))))))) : R_make_32 e d x1 x2 x3 x4 x5 x6 x7 M Q := by
  intro o8
  refine xGo.in ?_
  refine And.intro ⟨Nat.le_of_ble_eq_true rfl, Nat.le_of_ble_eq_true rfl, rs_ob hs⟩ ?_
  refine yI_use h (fun y2 M1 h => ?_)
  refine And.intro (⟨h.1.1, h.1.2⟩) (And.intro (fun c => ?_) (fun c => ?_))
  · replace h := h.2.1 c
    refine And.intro (⟨h.1, rg_lit (by decide)⟩) (And.intro (fun c => ?_) (fun c => ?_))
    · replace h := h.2.1 c
      refine And.intro ⟨Nat.le_of_ble_eq_true rfl, Nat.le_of_ble_eq_true rfl, rs_ob hs⟩ ?_
      refine yI_use h (fun y4 M3 h => ?_)
      exact h _
    · replace h := h.2.2 c
      exact yI_ret h
  · replace h := h.2.2 c
    refine And.intro ⟨Nat.le_of_ble_eq_true rfl, Nat.le_of_ble_eq_true rfl, trivial⟩ ?_
    refine yI_use h (fun y6 M5 h => ?_)
    refine And.intro ⟨Nat.le_of_ble_eq_true rfl, Nat.le_of_ble_eq_true rfl, rs_ob hs⟩ ?_
    refine yI_use h (fun y8 M7 h => ?_)
    refine And.intro ⟨Nat.le_of_ble_eq_true rfl, Nat.le_of_ble_eq_true rfl, rs_ob hs⟩ ?_
    refine yI_use h (fun y10 M9 h => ?_)
    refine And.intro (h.1) (And.intro (fun c => ?_) (fun c => ?_))
    · replace h := h.2.1 c
      refine And.intro (rs_ob hs) ?_
      refine And.intro (xi_ld (rs_8 hs) (h.1)) ?_
      replace h := h.2
      exact h _
    · replace h := h.2.2 c
      exact yI_ret h
theorem t_make_114 {e : yE} {d : Nat} {x1 x2 x3 x4 x5 x7 x8 : Int} {M : xM} {Q : Int → xM → Prop} (hs : RSh e) (h :
    R_countOf e d x1 x2 M (fun y2 M1 => 
    (rg x8 ∧ rg y2) ∧ ((y2 ≤ x8 → 
      (Q x7 M1)) ∧ 
    (¬ (y2 ≤ x8) → 
      (R_pick e d x8 x3 x4 x5 M1 (fun y4 M3 => 
      (0 ≤ (((3 : Int) * x7) + x8) ∧ (((3 : Int) * x7) + x8) < 900) ∧ 
      (∀ M5 : xM, M5 = xup M3 66 (((3 : Int) * x7) + x8) y4 → 
      (R_make_114 e d x1 x2 x3 x4 x5 x7 (x8 + 1) M5 Q)))))))) : R_make_114 e d x1 x2 x3 x4 x5 x7 x8 M Q := by
  intro o6
  refine xGo.in ?_
  refine And.intro ⟨Nat.le_of_ble_eq_true rfl, Nat.le_of_ble_eq_true rfl, rs_ob hs⟩ ?_
  refine yI_use h (fun y2 M1 h => ?_)
  refine And.intro (⟨h.1.1, h.1.2⟩) (And.intro (fun c => ?_) (fun c => ?_))
  · replace h := h.2.1 c
    exact yI_ret h
  · replace h := h.2.2 c
    refine And.intro (rs_ob hs) ?_
    refine And.intro ⟨Nat.le_of_ble_eq_true rfl, Nat.le_of_ble_eq_true rfl, trivial⟩ ?_
    refine yI_use h (fun y4 M3 h => ?_)
    refine And.intro (xi_st (rs_7 hs) (h.1)) ?_
    replace h := h.2
    obtain ⟨M5, hM5⟩ : ∃ z : xM, z = xup M3 66 (((3 : Int) * x7) + x8) y4 := ⟨_, rfl⟩
    refine xgo_st (e := e) (M := M5) (by subst hM5; rfl) ?_
    replace h := h M5 hM5
    exact h _
theorem t_make {e : yE} {d : Nat} {x1 : Int} {x2 : Int} {x3 : Int} {x4 : Int} {x5 : Int} {M : xM} {Q : Int → xM → Prop} (h : R_make_0 e d x1 x2 x3 x4 x5 M Q) : R_make e (d + 1) x1 x2 x3 x4 x5 M Q := h _ _ _
def R_addPattern_0 (e : yE) (d : Nat) (x1 x2 x3 x4 x5 x6 : Int) (M : xM) (Q : Int → xM → Prop) : Prop := xGo xft xNf xmt xtr d 114 0 [some (.inr (some 59)), some (.inl x1), some (.inl x2), some (.inl x3), some (.inl x4), some (.inl x5), some (.inl x6)] [] (yS e M) (yI e Q)
theorem t_addPattern_0 {e : yE} {d : Nat} {x1 x2 x3 x4 x5 x6 : Int} {M : xM} {Q : Int → xM → Prop} (hs : RSh e) (h :
    (0 ≤ (M 59 18) ∧ (M 59 18) < 300) ∧ 
    (∀ M1 : xM, M1 = xup M 68 (M 59 18) x1 → 
    ((0 ≤ (M1 59 18) ∧ (M1 59 18) < 300) ∧ 
    (∀ M2 : xM, M2 = xup M1 69 (M1 59 18) x2 → 
    ((0 ≤ (M2 59 18) ∧ (M2 59 18) < 300) ∧ 
    (∀ M3 : xM, M3 = xup M2 70 (M2 59 18) x3 → 
    ((0 ≤ (M3 59 18) ∧ (M3 59 18) < 300) ∧ 
    (∀ M4 : xM, M4 = xup M3 72 (M3 59 18) x4 → 
    ((0 ≤ (M4 59 18) ∧ (M4 59 18) < 300) ∧ 
    (∀ M5 : xM, M5 = xup M4 73 (M4 59 18) x5 → 
    (((0 ≤ (M5 59 18) ∧ (M5 59 18) < 300) ∧ (x6 = 0 ∨ x6 = 1)) ∧ 
    (∀ M6 : xM, M6 = xup M5 74 (M5 59 18) x6 → 
    (∀ M7 : xM, M7 = xup M6 59 18 ((M6 59 18) + (1 : Int)) → 
    (Q ((M7 59 18) - (1 : Int)) M7)))))))))))))) : R_addPattern_0 e d x1 x2 x3 x4 x5 x6 M Q := by
  refine xGo.in ?_
  refine And.intro (rs_ob hs) ?_
  refine And.intro (rs_ob hs) ?_
  refine And.intro (xi_st (rs_9 hs) (h.1)) ?_
  replace h := h.2
  obtain ⟨M1, hM1⟩ : ∃ z : xM, z = xup M 68 (M 59 18) x1 := ⟨_, rfl⟩
  refine xgo_st (e := e) (M := M1) (by subst hM1; rfl) ?_
  replace h := h M1 hM1
  refine And.intro (rs_ob hs) ?_
  refine And.intro (rs_ob hs) ?_
  refine And.intro (xi_st (rs_10 hs) (h.1)) ?_
  replace h := h.2
  obtain ⟨M2, hM2⟩ : ∃ z : xM, z = xup M1 69 (M1 59 18) x2 := ⟨_, rfl⟩
  refine xgo_st (e := e) (M := M2) (by subst hM2; rfl) ?_
  replace h := h M2 hM2
  refine And.intro (rs_ob hs) ?_
  refine And.intro (rs_ob hs) ?_
  refine And.intro (xi_st (rs_11 hs) (h.1)) ?_
  replace h := h.2
  obtain ⟨M3, hM3⟩ : ∃ z : xM, z = xup M2 70 (M2 59 18) x3 := ⟨_, rfl⟩
  refine xgo_st (e := e) (M := M3) (by subst hM3; rfl) ?_
  replace h := h M3 hM3
  refine And.intro (rs_ob hs) ?_
  refine And.intro (rs_ob hs) ?_
  refine And.intro (xi_st (rs_13 hs) (h.1)) ?_
  replace h := h.2
  obtain ⟨M4, hM4⟩ : ∃ z : xM, z = xup M3 72 (M3 59 18) x4 := ⟨_, rfl⟩
  refine xgo_st (e := e) (M := M4) (by subst hM4; rfl) ?_
  replace h := h M4 hM4
  refine And.intro (rs_ob hs) ?_
  refine And.intro (rs_ob hs) ?_
  refine And.intro (xi_st (rs_14 hs) (h.1)) ?_
  replace h := h.2
  obtain ⟨M5, hM5⟩ : ∃ z : xM, z = xup M4 73 (M4 59 18) x5 := ⟨_, rfl⟩
  refine xgo_st (e := e) (M := M5) (by subst hM5; rfl) ?_
  replace h := h M5 hM5
  refine And.intro (rs_ob hs) ?_
  refine And.intro (rs_ob hs) ?_
  refine And.intro (xi_stv (rs_15 hs) (h.1.1) (h.1.2)) ?_
  replace h := h.2
  obtain ⟨M6, hM6⟩ : ∃ z : xM, z = xup M5 74 (M5 59 18) x6 := ⟨_, rfl⟩
  refine xgo_st (e := e) (M := M6) (by subst hM6; rfl) ?_
  replace h := h M6 hM6
  refine And.intro (rs_ob hs) ?_
  refine And.intro (rs_ob hs) ?_
  obtain ⟨M7, hM7⟩ : ∃ z : xM, z = xup M6 59 18 ((M6 59 18) + (1 : Int)) := ⟨_, rfl⟩
  refine xgo_st (e := e) (M := M7) (by subst hM7; rfl) ?_
  replace h := h M7 hM7
  refine And.intro (rs_ob hs) ?_
  exact yI_ret h
theorem t_addPattern {e : yE} {d : Nat} {x1 : Int} {x2 : Int} {x3 : Int} {x4 : Int} {x5 : Int} {x6 : Int} {M : xM} {Q : Int → xM → Prop} (h : R_addPattern_0 e d x1 x2 x3 x4 x5 x6 M Q) : R_addPattern e (d + 1) x1 x2 x3 x4 x5 x6 M Q := h
def R_isName_0 (e : yE) (d : Nat) (x0 : Int) (M : xM) (Q : Int → xM → Prop) : Prop := xGo xft xNf xmt xtr d 115 0 [some (.inl x0)] [] (yS e M) (yI e Q)
theorem t_isName_0 {e : yE} {d : Nat} {x0 : Int} {M : xM} {Q : Int → xM → Prop} (h :
    (rg x0) ∧ ((x0 < 0 → 
      (Q (0 : Int) M)) ∧ 
    (¬ (x0 < 0) → 
      ((rg x0) ∧ (((16 : Int) ≤ x0 → 
        (Q (0 : Int) M)) ∧ 
      (¬ ((16 : Int) ≤ x0) → 
        (Q (1 : Int) M))))))) : R_isName_0 e d x0 M Q := by
  refine xGo.in ?_
  refine And.intro (h.1) (And.intro (fun c => ?_) (fun c => ?_))
  · replace h := h.2.1 c
    exact And.intro (by decide) (yI_ret h)
  · replace h := h.2.2 c
    refine And.intro (⟨h.1, rg_lit (by decide)⟩) (And.intro (fun c => ?_) (fun c => ?_))
    · replace h := h.2.1 c
      exact And.intro (by decide) (yI_ret h)
    · replace h := h.2.2 c
      exact And.intro (by decide) (yI_ret h)
theorem t_isName {e : yE} {d : Nat} {x0 : Int} {M : xM} {Q : Int → xM → Prop} (h : R_isName_0 e d x0 M Q) : R_isName e (d + 1) x0 M Q := h
def R_isPattern_0 (e : yE) (d : Nat) (x1 : Int) (M : xM) (Q : Int → xM → Prop) : Prop := xGo xft xNf xmt xtr d 116 0 [some (.inr (some 59)), some (.inl x1)] [] (yS e M) (yI e Q)
theorem t_isPattern_0 {e : yE} {d : Nat} {x1 : Int} {M : xM} {Q : Int → xM → Prop} (hs : RSh e) (h :
    (rg x1) ∧ ((x1 < 0 → 
      (Q (0 : Int) M)) ∧ 
    (¬ (x1 < 0) → 
      ((rg x1 ∧ rg (M 59 18)) ∧ (((M 59 18) ≤ x1 → 
        (Q (0 : Int) M)) ∧ 
      (¬ ((M 59 18) ≤ x1) → 
        (Q (1 : Int) M))))))) : R_isPattern_0 e d x1 M Q := by
  refine xGo.in ?_
  refine And.intro (h.1) (And.intro (fun c => ?_) (fun c => ?_))
  · replace h := h.2.1 c
    exact And.intro (by decide) (yI_ret h)
  · replace h := h.2.2 c
    refine And.intro (rs_ob hs) ?_
    refine And.intro (⟨h.1.1, h.1.2⟩) (And.intro (fun c => ?_) (fun c => ?_))
    · replace h := h.2.1 c
      exact And.intro (by decide) (yI_ret h)
    · replace h := h.2.2 c
      exact And.intro (by decide) (yI_ret h)
theorem t_isPattern {e : yE} {d : Nat} {x1 : Int} {M : xM} {Q : Int → xM → Prop} (h : R_isPattern_0 e d x1 M Q) : R_isPattern e (d + 1) x1 M Q := h
def R_hasName_0 (e : yE) (d : Nat) (x1 x2 : Int) (M : xM) (Q : Int → xM → Prop) : Prop := xGo xft xNf xmt xtr d 117 0 [some (.inr (some 59)), some (.inl x1), some (.inl x2)] [] (yS e M) (yI e Q)
theorem t_hasName_0 {e : yE} {d : Nat} {x1 x2 : Int} {M : xM} {Q : Int → xM → Prop} (hs : RSh e) (h :
    (0 ≤ x1 ∧ x1 < 300) ∧ 
    ((rg (xand32 (xshr32 (M 73 x1) x2) (1 : Int))) ∧ ((¬ (xand32 (xshr32 (M 73 x1) x2) (1 : Int)) = (1 : Int) → 
      (Q (0 : Int) M)) ∧ 
    (¬ (¬ (xand32 (xshr32 (M 73 x1) x2) (1 : Int)) = (1 : Int)) → 
      (Q (1 : Int) M))))) : R_hasName_0 e d x1 x2 M Q := by
  refine xGo.in ?_
  refine And.intro (rs_ob hs) ?_
  refine And.intro (xi_ld (rs_14 hs) (h.1)) ?_
  replace h := h.2
  refine And.intro (⟨h.1, rg_lit (by decide)⟩) (And.intro (fun c => ?_) (fun c => ?_))
  · replace h := h.2.1 c
    exact And.intro (by decide) (yI_ret h)
  · replace h := h.2.2 c
    exact And.intro (by decide) (yI_ret h)
theorem t_hasName {e : yE} {d : Nat} {x1 : Int} {x2 : Int} {M : xM} {Q : Int → xM → Prop} (h : R_hasName_0 e d x1 x2 M Q) : R_hasName e (d + 1) x1 x2 M Q := h
def R_any_0 (e : yE) (d : Nat) (x1 x2 : Int) (M : xM) (Q : Int → xM → Prop) : Prop := xGo xft xNf xmt xtr d 118 0 [some (.inr (some 59)), some (.inl x1), some (.inl x2)] [] (yS e M) (yI e Q)
def R_any_25 (e : yE) (d : Nat) (x1 x2 : Int) (M : xM) (Q : Int → xM → Prop) : Prop := xGo xft xNf xmt xtr d 118 25 [some (.inr (some 59)), some (.inl x1), some (.inl x2)] [] (yS e M) (yI e Q)
theorem t_any_0 {e : yE} {d : Nat} {x1 x2 : Int} {M : xM} {Q : Int → xM → Prop} (hs : RSh e) (h :
    ∀ M1 : xM, M1 = xup M 59 0 (0 : Int) → 
    (R_isType e d x1 M1 (fun y3 M2 => 
    (rg y3) ∧ ((y3 = 0 → 
      (Q (-1 : Int) M2)) ∧ 
    (¬ (y3 = 0) → 
      ((rg x2) ∧ ((x2 = (-1 : Int) → 
        (R_any_25 e d x1 x2 M2 Q)) ∧ 
      (¬ (x2 = (-1 : Int)) → 
        (R_isName e d x2 M2 (fun y5 M4 => 
        (rg y5) ∧ ((y5 = 0 → 
          (Q (-1 : Int) M4)) ∧ 
        (¬ (y5 = 0) → 
          (R_any_25 e d x1 x2 M4 Q))))))))))))) : R_any_0 e d x1 x2 M Q := by
  refine xGo.in ?_
  refine And.intro (rs_ob hs) ?_
  obtain ⟨M1, hM1⟩ : ∃ z : xM, z = xup M 59 0 (0 : Int) := ⟨_, rfl⟩
  refine xgo_st (e := e) (M := M1) (by subst hM1; rfl) ?_
  replace h := h M1 hM1
  refine And.intro ⟨Nat.le_of_ble_eq_true rfl, Nat.le_of_ble_eq_true rfl, rs_ob hs⟩ ?_
  refine yI_use h (fun y3 M2 h => ?_)
  refine And.intro (h.1) (And.intro (fun c => ?_) (fun c => ?_))
  · replace h := h.2.1 c
    exact yI_ret h
  · replace h := h.2.2 c
    refine And.intro (⟨h.1, rg_lit (by decide)⟩) (And.intro (fun c => ?_) (fun c => ?_))
    · replace h := h.2.1 c
      exact h
    · replace h := h.2.2 c
      refine And.intro ⟨Nat.le_of_ble_eq_true rfl, Nat.le_of_ble_eq_true rfl, trivial⟩ ?_
      refine yI_use h (fun y5 M4 h => ?_)
      refine And.intro (h.1) (And.intro (fun c => ?_) (fun c => ?_))
      · replace h := h.2.1 c
        exact yI_ret h
      · replace h := h.2.2 c
        exact h
theorem t_any_25 {e : yE} {d : Nat} {x1 x2 : Int} {M : xM} {Q : Int → xM → Prop} (hs : RSh e) (h :
    (rg (M 59 18)) ∧ ((¬ (M 59 18) = (300 : Int) → 
      ((rg x2) ∧ ((¬ x2 = (-1 : Int) → 
        (R_addPattern e d (0 : Int) x1 x2 (1 : Int) (xshl32 (1 : Int) x2) (0 : Int) M (fun y2 M1 => 
        Q y2 M1))) ∧ 
      (¬ (¬ x2 = (-1 : Int)) → 
        (R_addPattern e d (0 : Int) x1 x2 (1 : Int) (0 : Int) (0 : Int) M (fun y4 M3 => 
        Q y4 M3)))))) ∧ 
    (¬ (¬ (M 59 18) = (300 : Int)) → 
      (Q (-1 : Int) M)))) : R_any_25 e d x1 x2 M Q := by
  refine xGo.in ?_
  refine And.intro (rs_ob hs) ?_
  refine And.intro (⟨h.1, rg_lit (by decide)⟩) (And.intro (fun c => ?_) (fun c => ?_))
  · replace h := h.2.1 c
    refine And.intro (⟨h.1, rg_lit (by decide)⟩) (And.intro (fun c => ?_) (fun c => ?_))
    · replace h := h.2.1 c
      refine And.intro ⟨Nat.le_of_ble_eq_true rfl, Nat.le_of_ble_eq_true rfl, rs_ob hs⟩ ?_
      refine yI_use h (fun y2 M1 h => ?_)
      exact yI_ret h
    · replace h := h.2.2 c
      refine And.intro ⟨Nat.le_of_ble_eq_true rfl, Nat.le_of_ble_eq_true rfl, rs_ob hs⟩ ?_
      refine yI_use h (fun y4 M3 h => ?_)
      exact yI_ret h
  · replace h := h.2.2 c
    exact yI_ret h
theorem t_any {e : yE} {d : Nat} {x1 : Int} {x2 : Int} {M : xM} {Q : Int → xM → Prop} (h : R_any_0 e d x1 x2 M Q) : R_any e (d + 1) x1 x2 M Q := h
def R_also_0 (e : yE) (d : Nat) (x1 x2 : Int) (M : xM) (Q : Int → xM → Prop) : Prop := xGo xft xNf xmt xtr d 119 0 [some (.inr (some 59)), some (.inl x1), some (.inl x2)] [] (yS e M) (yI e Q)
theorem t_also_0 {e : yE} {d : Nat} {x1 x2 : Int} {M : xM} {Q : Int → xM → Prop} (hs : RSh e) (h :
    ∀ M1 : xM, M1 = xup M 59 0 (0 : Int) → 
    (R_isName e d x1 M1 (fun y3 M2 => 
    (rg y3) ∧ ((y3 = 0 → 
      (Q (-1 : Int) M2)) ∧ 
    (¬ (y3 = 0) → 
      (R_isPattern e d x2 M2 (fun y5 M4 => 
      (rg y5) ∧ ((y5 = 0 → 
        (Q (-1 : Int) M4)) ∧ 
      (¬ (y5 = 0) → 
        ((rg (M4 59 18)) ∧ (((M4 59 18) = (300 : Int) → 
          (Q (-1 : Int) M4)) ∧ 
        (¬ ((M4 59 18) = (300 : Int)) → 
          (R_hasName e d x2 x1 M4 (fun y7 M6 => 
          (rg y7) ∧ ((¬ y7 = 0 → 
            (Q (-1 : Int) M6)) ∧ 
          (¬ (¬ y7 = 0) → 
            ((0 ≤ x2 ∧ x2 < 300) ∧ 
            ((rg (M6 72 x2)) ∧ (((M6 72 x2) ≤ (39 : Int) → 
              ((0 ≤ ((3 : Int) * (M6 59 18)) ∧ ((3 : Int) * (M6 59 18)) < 900) ∧ 
              (∀ M8 : xM, M8 = xup M6 71 ((3 : Int) * (M6 59 18)) x2 → 
              ((0 ≤ x2 ∧ x2 < 300) ∧ 
              ((0 ≤ x2 ∧ x2 < 300) ∧ 
              ((0 ≤ x2 ∧ x2 < 300) ∧ 
              ((0 ≤ x2 ∧ x2 < 300) ∧ 
              (R_addPattern e d (3 : Int) (M8 69 x2) x1 ((M8 72 x2) + (1 : Int)) (xor32 (M8 73 x2) (xshl32 (1 : Int) x1)) (M8 74 x2) M8 (fun y10 M9 => 
              Q y10 M9))))))))) ∧ 
            (¬ ((M6 72 x2) ≤ (39 : Int)) → 
              (Q (-1 : Int) M6))))))))))))))))))))) : R_also_0 e d x1 x2 M Q := by
  refine xGo.in ?_
  refine And.intro (rs_ob hs) ?_
  obtain ⟨M1, hM1⟩ : ∃ z : xM, z = xup M 59 0 (0 : Int) := ⟨_, rfl⟩
  refine xgo_st (e := e) (M := M1) (by subst hM1; rfl) ?_
  replace h := h M1 hM1
  refine And.intro ⟨Nat.le_of_ble_eq_true rfl, Nat.le_of_ble_eq_true rfl, trivial⟩ ?_
  refine yI_use h (fun y3 M2 h => ?_)
  refine And.intro (h.1) (And.intro (fun c => ?_) (fun c => ?_))
  · replace h := h.2.1 c
    exact yI_ret h
  · replace h := h.2.2 c
    refine And.intro ⟨Nat.le_of_ble_eq_true rfl, Nat.le_of_ble_eq_true rfl, rs_ob hs⟩ ?_
    refine yI_use h (fun y5 M4 h => ?_)
    refine And.intro (h.1) (And.intro (fun c => ?_) (fun c => ?_))
    · replace h := h.2.1 c
      exact yI_ret h
    · replace h := h.2.2 c
      refine And.intro (rs_ob hs) ?_
      refine And.intro (⟨h.1, rg_lit (by decide)⟩) (And.intro (fun c => ?_) (fun c => ?_))
      · replace h := h.2.1 c
        exact yI_ret h
      · replace h := h.2.2 c
        refine And.intro ⟨Nat.le_of_ble_eq_true rfl, Nat.le_of_ble_eq_true rfl, rs_ob hs⟩ ?_
        refine yI_use h (fun y7 M6 h => ?_)
        refine And.intro (h.1) (And.intro (fun c => ?_) (fun c => ?_))
        · replace h := h.2.1 c
          exact yI_ret h
        · replace h := h.2.2 c
          refine And.intro (rs_ob hs) ?_
          refine And.intro (xi_ld (rs_13 hs) (h.1)) ?_
          replace h := h.2
          refine And.intro (⟨h.1, rg_lit (by decide)⟩) (And.intro (fun c => ?_) (fun c => ?_))
          · replace h := h.2.1 c
            refine And.intro (rs_ob hs) ?_
            refine And.intro (rs_ob hs) ?_
            refine And.intro (xi_st (rs_12 hs) (h.1)) ?_
            replace h := h.2
            obtain ⟨M8, hM8⟩ : ∃ z : xM, z = xup M6 71 ((3 : Int) * (M6 59 18)) x2 := ⟨_, rfl⟩
            refine xgo_st (e := e) (M := M8) (by subst hM8; rfl) ?_
            replace h := h M8 hM8
            refine And.intro (rs_ob hs) ?_
            refine And.intro (xi_ld (rs_10 hs) (h.1)) ?_
            replace h := h.2
            refine And.intro (rs_ob hs) ?_
            refine And.intro (xi_ld (rs_13 hs) (h.1)) ?_
            replace h := h.2
            refine And.intro (rs_ob hs) ?_
            refine And.intro (xi_ld (rs_14 hs) (h.1)) ?_
            replace h := h.2
            refine And.intro (rs_ob hs) ?_
            refine And.intro (xi_ldb (rs_15 hs) (h.1)) ?_
            replace h := h.2
            refine And.intro ⟨Nat.le_of_ble_eq_true rfl, Nat.le_of_ble_eq_true rfl, rs_ob hs⟩ ?_
            refine yI_use h (fun y10 M9 h => ?_)
            exact yI_ret h
          · replace h := h.2.2 c
            exact yI_ret h
theorem t_also {e : yE} {d : Nat} {x1 : Int} {x2 : Int} {M : xM} {Q : Int → xM → Prop} (h : R_also_0 e d x1 x2 M Q) : R_also e (d + 1) x1 x2 M Q := h
def R_exactly_0 (e : yE) (d : Nat) (x1 : Int) (M : xM) (Q : Int → xM → Prop) : Prop := xGo xft xNf xmt xtr d 120 0 [some (.inr (some 59)), some (.inl x1)] [] (yS e M) (yI e Q)
theorem t_exactly_0 {e : yE} {d : Nat} {x1 : Int} {M : xM} {Q : Int → xM → Prop} (hs : RSh e) (h :
    ∀ M1 : xM, M1 = xup M 59 0 (0 : Int) → 
    ((rg (M1 59 18)) ∧ ((¬ (M1 59 18) = (300 : Int) → 
      (R_addPattern e d (1 : Int) (0 : Int) x1 (1 : Int) (0 : Int) (0 : Int) M1 (fun y3 M2 => 
      Q y3 M2))) ∧ 
    (¬ (¬ (M1 59 18) = (300 : Int)) → 
      (Q (-1 : Int) M1))))) : R_exactly_0 e d x1 M Q := by
  refine xGo.in ?_
  refine And.intro (rs_ob hs) ?_
  obtain ⟨M1, hM1⟩ : ∃ z : xM, z = xup M 59 0 (0 : Int) := ⟨_, rfl⟩
  refine xgo_st (e := e) (M := M1) (by subst hM1; rfl) ?_
  replace h := h M1 hM1
  refine And.intro (rs_ob hs) ?_
  refine And.intro (⟨h.1, rg_lit (by decide)⟩) (And.intro (fun c => ?_) (fun c => ?_))
  · replace h := h.2.1 c
    refine And.intro ⟨Nat.le_of_ble_eq_true rfl, Nat.le_of_ble_eq_true rfl, rs_ob hs⟩ ?_
    refine yI_use h (fun y3 M2 h => ?_)
    exact yI_ret h
  · replace h := h.2.2 c
    exact yI_ret h
theorem t_exactly {e : yE} {d : Nat} {x1 : Int} {M : xM} {Q : Int → xM → Prop} (h : R_exactly_0 e d x1 M Q) : R_exactly e (d + 1) x1 M Q := h
def R_made_0 (e : yE) (d : Nat) (x1 x2 x3 x4 x5 : Int) (M : xM) (Q : Int → xM → Prop) : Prop := ∀ (o6 o7 o8 o9 o10 : Option xV), xGo xft xNf xmt xtr d 121 0 [some (.inr (some 59)), some (.inl x1), some (.inl x2), some (.inl x3), some (.inl x4), some (.inl x5), o6, o7, o8, o9, o10] [] (yS e M) (yI e Q)
def R_made_38 (e : yE) (d : Nat) (x1 x2 x3 x4 x5 x6 x7 x8 x9 : Int) (M : xM) (Q : Int → xM → Prop) : Prop := ∀ (o10 : Option xV), xGo xft xNf xmt xtr d 121 38 [some (.inr (some 59)), some (.inl x1), some (.inl x2), some (.inl x3), some (.inl x4), some (.inl x5), some (.inl x6), some (.inl x7), some (.inl x8), some (.inl x9), o10] [] (yS e M) (yI e Q)
def R_made_167 (e : yE) (d : Nat) (x1 x2 x3 x4 x5 x6 x7 x8 x9 : Int) (M : xM) (Q : Int → xM → Prop) : Prop := ∀ (o10 : Option xV), xGo xft xNf xmt xtr d 121 167 [some (.inr (some 59)), some (.inl x1), some (.inl x2), some (.inl x3), some (.inl x4), some (.inl x5), some (.inl x6), some (.inl x7), some (.inl x8), some (.inl x9), o10] [] (yS e M) (yI e Q)
theorem t_made_0 {e : yE} {d : Nat} {x1 x2 x3 x4 x5 : Int} {M : xM} {Q : Int → xM → Prop} (hs : RSh e) (h :
    ∀ M1 : xM, M1 = xup M 59 0 (0 : Int) → 
    (R_isMaker e d x1 x2 M1 (fun y3 M2 => 
    (rg y3) ∧ ((y3 = 0 → 
      (Q (-1 : Int) M2)) ∧ 
    (¬ (y3 = 0) → 
      ((rg (M2 59 18)) ∧ ((¬ (M2 59 18) = (300 : Int) → 
        (R_made_38 e d x1 x2 x3 x4 x5 (1 : Int) (0 : Int) (0 : Int) (0 : Int) M2 Q)) ∧ 
      (¬ (¬ (M2 59 18) = (300 : Int)) → 
        (Q (-1 : Int) M2))))))))) : R_made_0 e d x1 x2 x3 x4 x5 M Q := by
  intro o6 o7 o8 o9 o10
  refine xGo.in ?_
  refine And.intro (rs_ob hs) ?_
  obtain ⟨M1, hM1⟩ : ∃ z : xM, z = xup M 59 0 (0 : Int) := ⟨_, rfl⟩
  refine xgo_st (e := e) (M := M1) (by subst hM1; rfl) ?_
  replace h := h M1 hM1
  refine And.intro ⟨Nat.le_of_ble_eq_true rfl, Nat.le_of_ble_eq_true rfl, rs_ob hs⟩ ?_
  refine yI_use h (fun y3 M2 h => ?_)
  refine And.intro (h.1) (And.intro (fun c => ?_) (fun c => ?_))
  · replace h := h.2.1 c
    exact yI_ret h
  · replace h := h.2.2 c
    refine And.intro (rs_ob hs) ?_
    refine And.intro (⟨h.1, rg_lit (by decide)⟩) (And.intro (fun c => ?_) (fun c => ?_))
    · replace h := h.2.1 c
      exact h _
    · replace h := h.2.2 c
      exact yI_ret h
theorem t_made_38 {e : yE} {d : Nat} {x1 x2 x3 x4 x5 x6 x7 x8 x9 : Int} {M : xM} {Q : Int → xM → Prop} (hs : RSh e) (h :
    R_countOf e d x1 x2 M (fun y2 M1 => 
    (rg x9 ∧ rg y2) ∧ ((y2 ≤ x9 → 
      ((rg x6) ∧ ((x6 ≤ (40 : Int) → 
        (R_made_167 e d x1 x2 x3 x4 x5 x6 x7 x8 (0 : Int) M1 Q)) ∧ 
      (¬ (x6 ≤ (40 : Int)) → 
        (Q (-1 : Int) M1))))) ∧ 
    (¬ (y2 ≤ x9) → 
      (R_pick e d x9 x3 x4 x5 M1 (fun y4 M3 => 
      R_isPattern e d y4 M3 (fun y6 M5 => 
      (rg y6) ∧ ((y6 = 0 → 
        (Q (-1 : Int) M5)) ∧ 
      (¬ (y6 = 0) → 
        ((0 ≤ y4 ∧ y4 < 300) ∧ 
        (R_partType e d x1 x2 x9 M5 (fun y8 M7 => 
        (rg (M5 69 y4) ∧ rg y8) ∧ ((¬ (M5 69 y4) = y8 → 
          (Q (-1 : Int) M7)) ∧ 
        (¬ (¬ (M5 69 y4) = y8) → 
          ((0 ≤ y4 ∧ y4 < 300) ∧ 
          ((rg (xand32 (M7 73 y4) x7)) ∧ (((xand32 (M7 73 y4) x7) = 0 → 
            ((0 ≤ y4 ∧ y4 < 300) ∧ 
            ((0 ≤ y4 ∧ y4 < 300) ∧ 
            ((rg x8) ∧ ((¬ x8 = 0 → 
              (R_made_38 e d x1 x2 x3 x4 x5 (x6 + (M7 72 y4)) (xor32 x7 (M7 73 y4)) (1 : Int) (x9 + 1) M7 Q)) ∧ 
            (¬ (¬ x8 = 0) → 
              ((0 ≤ y4 ∧ y4 < 300) ∧ 
              ((rg (M7 74 y4)) ∧ (((M7 74 y4) = 0 → 
                (R_made_38 e d x1 x2 x3 x4 x5 (x6 + (M7 72 y4)) (xor32 x7 (M7 73 y4)) (0 : Int) (x9 + 1) M7 Q)) ∧ 
              (¬ ((M7 74 y4) = 0) → 
                (R_made_38 e d x1 x2 x3 x4 x5 (x6 + (M7 72 y4)) (xor32 x7 (M7 73 y4)) (1 : Int) (x9 + 1) M7 Q))))))))))) ∧ 
          (¬ ((xand32 (M7 73 y4) x7) = 0) → 
            (Q (-1 : Int) M7))))))))))))))))))) : R_made_38 e d x1 x2 x3 x4 x5 x6 x7 x8 x9 M Q := by
  intro o10
  refine xGo.in ?_
  refine And.intro ⟨Nat.le_of_ble_eq_true rfl, Nat.le_of_ble_eq_true rfl, rs_ob hs⟩ ?_
  refine yI_use h (fun y2 M1 h => ?_)
  refine And.intro (⟨h.1.1, h.1.2⟩) (And.intro (fun c => ?_) (fun c => ?_))
  · replace h := h.2.1 c
    refine And.intro (⟨h.1, rg_lit (by decide)⟩) (And.intro (fun c => ?_) (fun c => ?_))
    · replace h := h.2.1 c
      exact h _
    · replace h := h.2.2 c
      exact yI_ret h
  · replace h := h.2.2 c
    refine And.intro ⟨Nat.le_of_ble_eq_true rfl, Nat.le_of_ble_eq_true rfl, trivial⟩ ?_
    refine yI_use h (fun y4 M3 h => ?_)
    refine And.intro ⟨Nat.le_of_ble_eq_true rfl, Nat.le_of_ble_eq_true rfl, rs_ob hs⟩ ?_
    refine yI_use h (fun y6 M5 h => ?_)
    refine And.intro (h.1) (And.intro (fun c => ?_) (fun c => ?_))
    · replace h := h.2.1 c
      exact yI_ret h
    · replace h := h.2.2 c
      refine And.intro (rs_ob hs) ?_
      refine And.intro (xi_ld (rs_10 hs) (h.1)) ?_
      replace h := h.2
      refine And.intro ⟨Nat.le_of_ble_eq_true rfl, Nat.le_of_ble_eq_true rfl, rs_ob hs⟩ ?_
      refine yI_use h (fun y8 M7 h => ?_)
      refine And.intro (⟨h.1.1, h.1.2⟩) (And.intro (fun c => ?_) (fun c => ?_))
      · replace h := h.2.1 c
        exact yI_ret h
      · replace h := h.2.2 c
        refine And.intro (rs_ob hs) ?_
        refine And.intro (xi_ld (rs_14 hs) (h.1)) ?_
        replace h := h.2
        refine And.intro (h.1) (And.intro (fun c => ?_) (fun c => ?_))
        · replace h := h.2.1 c
          refine And.intro (rs_ob hs) ?_
          refine And.intro (xi_ld (rs_13 hs) (h.1)) ?_
          replace h := h.2
          refine And.intro (rs_ob hs) ?_
          refine And.intro (xi_ld (rs_14 hs) (h.1)) ?_
          replace h := h.2
          refine And.intro (h.1) (And.intro (fun c => ?_) (fun c => ?_))
          · replace h := h.2.1 c
            exact h _
          · replace h := h.2.2 c
            refine And.intro (rs_ob hs) ?_
            refine And.intro (xi_ldb (rs_15 hs) (h.1)) ?_
            replace h := h.2
            refine And.intro (h.1) (And.intro (fun c => ?_) (fun c => ?_))
            · replace h := h.2.1 c
              exact h _
            · replace h := h.2.2 c
              exact h _
        · replace h := h.2.2 c
          exact yI_ret h
theorem t_made_167 {e : yE} {d : Nat} {x1 x2 x3 x4 x5 x6 x7 x8 x9 : Int} {M : xM} {Q : Int → xM → Prop} (hs : RSh e) (h :
    R_countOf e d x1 x2 M (fun y2 M1 => 
    (rg x9 ∧ rg y2) ∧ ((y2 ≤ x9 → 
      (R_addPattern e d (2 : Int) x1 x2 x6 x7 x8 M1 (fun y4 M3 => 
      Q y4 M3))) ∧ 
    (¬ (y2 ≤ x9) → 
      (R_pick e d x9 x3 x4 x5 M1 (fun y6 M5 => 
      (0 ≤ (((3 : Int) * (M1 59 18)) + x9) ∧ (((3 : Int) * (M1 59 18)) + x9) < 900) ∧ 
      (∀ M7 : xM, M7 = xup M5 71 (((3 : Int) * (M1 59 18)) + x9) y6 → 
      (R_made_167 e d x1 x2 x3 x4 x5 x6 x7 x8 (x9 + 1) M7 Q)))))))) : R_made_167 e d x1 x2 x3 x4 x5 x6 x7 x8 x9 M Q := by
  intro o10
  refine xGo.in ?_
  refine And.intro ⟨Nat.le_of_ble_eq_true rfl, Nat.le_of_ble_eq_true rfl, rs_ob hs⟩ ?_
  refine yI_use h (fun y2 M1 h => ?_)
  refine And.intro (⟨h.1.1, h.1.2⟩) (And.intro (fun c => ?_) (fun c => ?_))
  · replace h := h.2.1 c
    refine And.intro ⟨Nat.le_of_ble_eq_true rfl, Nat.le_of_ble_eq_true rfl, rs_ob hs⟩ ?_
    refine yI_use h (fun y4 M3 h => ?_)
    exact yI_ret h
  · replace h := h.2.2 c
    refine And.intro (rs_ob hs) ?_
    refine And.intro (rs_ob hs) ?_
    refine And.intro ⟨Nat.le_of_ble_eq_true rfl, Nat.le_of_ble_eq_true rfl, trivial⟩ ?_
    refine yI_use h (fun y6 M5 h => ?_)
    refine And.intro (xi_st (rs_12 hs) (h.1)) ?_
    replace h := h.2
    obtain ⟨M7, hM7⟩ : ∃ z : xM, z = xup M5 71 (((3 : Int) * (M1 59 18)) + x9) y6 := ⟨_, rfl⟩
    refine xgo_st (e := e) (M := M7) (by subst hM7; rfl) ?_
    replace h := h M7 hM7
    exact h _
theorem t_made {e : yE} {d : Nat} {x1 : Int} {x2 : Int} {x3 : Int} {x4 : Int} {x5 : Int} {M : xM} {Q : Int → xM → Prop} (h : R_made_0 e d x1 x2 x3 x4 x5 M Q) : R_made e (d + 1) x1 x2 x3 x4 x5 M Q := h _ _ _ _ _
def R_either_0 (e : yE) (d : Nat) (x1 x2 : Int) (M : xM) (Q : Int → xM → Prop) : Prop := xGo xft xNf xmt xtr d 122 0 [some (.inr (some 59)), some (.inl x1), some (.inl x2)] [] (yS e M) (yI e Q)
theorem t_either_0 {e : yE} {d : Nat} {x1 x2 : Int} {M : xM} {Q : Int → xM → Prop} (hs : RSh e) (h :
    ∀ M1 : xM, M1 = xup M 59 0 (0 : Int) → 
    (R_isPattern e d x1 M1 (fun y3 M2 => 
    (rg y3) ∧ ((y3 = 0 → 
      (Q (-1 : Int) M2)) ∧ 
    (¬ (y3 = 0) → 
      (R_isPattern e d x2 M2 (fun y5 M4 => 
      (rg y5) ∧ ((y5 = 0 → 
        (Q (-1 : Int) M4)) ∧ 
      (¬ (y5 = 0) → 
        ((rg (M4 59 18)) ∧ ((¬ (M4 59 18) = (300 : Int) → 
          ((0 ≤ x1 ∧ x1 < 300) ∧ 
          ((0 ≤ x2 ∧ x2 < 300) ∧ 
          ((rg (M4 69 x1) ∧ rg (M4 69 x2)) ∧ ((¬ (M4 69 x1) = (M4 69 x2) → 
            (Q (-1 : Int) M4)) ∧ 
          (¬ (¬ (M4 69 x1) = (M4 69 x2)) → 
            ((0 ≤ x1 ∧ x1 < 300) ∧ 
            ((0 ≤ x2 ∧ x2 < 300) ∧ 
            ((rg (M4 73 x1) ∧ rg (M4 73 x2)) ∧ ((¬ (M4 73 x1) = (M4 73 x2) → 
              (Q (-1 : Int) M4)) ∧ 
            (¬ (¬ (M4 73 x1) = (M4 73 x2)) → 
              ((0 ≤ x1 ∧ x1 < 300) ∧ 
              ((0 ≤ x2 ∧ x2 < 300) ∧ 
              ((rg (((1 : Int) + (M4 72 x1)) + (M4 72 x2))) ∧ (((((1 : Int) + (M4 72 x1)) + (M4 72 x2)) ≤ (40 : Int) → 
                ((0 ≤ ((3 : Int) * (M4 59 18)) ∧ ((3 : Int) * (M4 59 18)) < 900) ∧ 
                (∀ M6 : xM, M6 = xup M4 71 ((3 : Int) * (M4 59 18)) x1 → 
                ((0 ≤ (((3 : Int) * (M6 59 18)) + (1 : Int)) ∧ (((3 : Int) * (M6 59 18)) + (1 : Int)) < 900) ∧ 
                (∀ M7 : xM, M7 = xup M6 71 (((3 : Int) * (M6 59 18)) + (1 : Int)) x2 → 
                ((0 ≤ x1 ∧ x1 < 300) ∧ 
                ((0 ≤ x1 ∧ x1 < 300) ∧ 
                ((0 ≤ x2 ∧ x2 < 300) ∧ 
                ((0 ≤ x1 ∧ x1 < 300) ∧ 
                (R_addPattern e d (4 : Int) (M7 69 x1) (-1 : Int) (((1 : Int) + (M7 72 x1)) + (M7 72 x2)) (M7 73 x1) (1 : Int) M7 (fun y9 M8 => 
                Q y9 M8))))))))))) ∧ 
              (¬ ((((1 : Int) + (M4 72 x1)) + (M4 72 x2)) ≤ (40 : Int)) → 
                (Q (-1 : Int) M4))))))))))))))))) ∧ 
        (¬ (¬ (M4 59 18) = (300 : Int)) → 
          (Q (-1 : Int) M4))))))))))))) : R_either_0 e d x1 x2 M Q := by
  refine xGo.in ?_
  refine And.intro (rs_ob hs) ?_
  obtain ⟨M1, hM1⟩ : ∃ z : xM, z = xup M 59 0 (0 : Int) := ⟨_, rfl⟩
  refine xgo_st (e := e) (M := M1) (by subst hM1; rfl) ?_
  replace h := h M1 hM1
  refine And.intro ⟨Nat.le_of_ble_eq_true rfl, Nat.le_of_ble_eq_true rfl, rs_ob hs⟩ ?_
  refine yI_use h (fun y3 M2 h => ?_)
  refine And.intro (h.1) (And.intro (fun c => ?_) (fun c => ?_))
  · replace h := h.2.1 c
    exact yI_ret h
  · replace h := h.2.2 c
    refine And.intro ⟨Nat.le_of_ble_eq_true rfl, Nat.le_of_ble_eq_true rfl, rs_ob hs⟩ ?_
    refine yI_use h (fun y5 M4 h => ?_)
    refine And.intro (h.1) (And.intro (fun c => ?_) (fun c => ?_))
    · replace h := h.2.1 c
      exact yI_ret h
    · replace h := h.2.2 c
      refine And.intro (rs_ob hs) ?_
      refine And.intro (⟨h.1, rg_lit (by decide)⟩) (And.intro (fun c => ?_) (fun c => ?_))
      · replace h := h.2.1 c
        refine And.intro (rs_ob hs) ?_
        refine And.intro (xi_ld (rs_10 hs) (h.1)) ?_
        replace h := h.2
        refine And.intro (rs_ob hs) ?_
        refine And.intro (xi_ld (rs_10 hs) (h.1)) ?_
        replace h := h.2
        refine And.intro (⟨h.1.1, h.1.2⟩) (And.intro (fun c => ?_) (fun c => ?_))
        · replace h := h.2.1 c
          exact yI_ret h
        · replace h := h.2.2 c
          refine And.intro (rs_ob hs) ?_
          refine And.intro (xi_ld (rs_14 hs) (h.1)) ?_
          replace h := h.2
          refine And.intro (rs_ob hs) ?_
          refine And.intro (xi_ld (rs_14 hs) (h.1)) ?_
          replace h := h.2
          refine And.intro (⟨h.1.1, h.1.2⟩) (And.intro (fun c => ?_) (fun c => ?_))
          · replace h := h.2.1 c
            exact yI_ret h
          · replace h := h.2.2 c
            refine And.intro (rs_ob hs) ?_
            refine And.intro (xi_ld (rs_13 hs) (h.1)) ?_
            replace h := h.2
            refine And.intro (rs_ob hs) ?_
            refine And.intro (xi_ld (rs_13 hs) (h.1)) ?_
            replace h := h.2
            refine And.intro (⟨h.1, rg_lit (by decide)⟩) (And.intro (fun c => ?_) (fun c => ?_))
            · replace h := h.2.1 c
              refine And.intro (rs_ob hs) ?_
              refine And.intro (rs_ob hs) ?_
              refine And.intro (xi_st (rs_12 hs) (h.1)) ?_
              replace h := h.2
              obtain ⟨M6, hM6⟩ : ∃ z : xM, z = xup M4 71 ((3 : Int) * (M4 59 18)) x1 := ⟨_, rfl⟩
              refine xgo_st (e := e) (M := M6) (by subst hM6; rfl) ?_
              replace h := h M6 hM6
              refine And.intro (rs_ob hs) ?_
              refine And.intro (rs_ob hs) ?_
              refine And.intro (xi_st (rs_12 hs) (h.1)) ?_
              replace h := h.2
              obtain ⟨M7, hM7⟩ : ∃ z : xM, z = xup M6 71 (((3 : Int) * (M6 59 18)) + (1 : Int)) x2 := ⟨_, rfl⟩
              refine xgo_st (e := e) (M := M7) (by subst hM7; rfl) ?_
              replace h := h M7 hM7
              refine And.intro (rs_ob hs) ?_
              refine And.intro (xi_ld (rs_10 hs) (h.1)) ?_
              replace h := h.2
              refine And.intro (rs_ob hs) ?_
              refine And.intro (xi_ld (rs_13 hs) (h.1)) ?_
              replace h := h.2
              refine And.intro (rs_ob hs) ?_
              refine And.intro (xi_ld (rs_13 hs) (h.1)) ?_
              replace h := h.2
              refine And.intro (rs_ob hs) ?_
              refine And.intro (xi_ld (rs_14 hs) (h.1)) ?_
              replace h := h.2
              refine And.intro ⟨Nat.le_of_ble_eq_true rfl, Nat.le_of_ble_eq_true rfl, rs_ob hs⟩ ?_
              refine yI_use h (fun y9 M8 h => ?_)
              exact yI_ret h
            · replace h := h.2.2 c
              exact yI_ret h
      · replace h := h.2.2 c
        exact yI_ret h
theorem t_either {e : yE} {d : Nat} {x1 : Int} {x2 : Int} {M : xM} {Q : Int → xM → Prop} (h : R_either_0 e d x1 x2 M Q) : R_either e (d + 1) x1 x2 M Q := h
def R_match_0 (e : yE) (d : Nat) (x1 x2 x3 x4 : Int) (M : xM) (Q : Int → xM → Prop) : Prop := ∀ (o5 : Option xV), xGo xft xNf xmt xtr d 123 0 [some (.inr (some 59)), some (.inl x1), some (.inl x2), some (.inl x3), some (.inl x4), o5] [] (yS e M) (yI e Q)
def R_match_29 (e : yE) (d : Nat) (x1 x2 x3 x4 x5 : Int) (M : xM) (Q : Int → xM → Prop) : Prop := xGo xft xNf xmt xtr d 123 29 [some (.inr (some 59)), some (.inl x1), some (.inl x2), some (.inl x3), some (.inl x4), some (.inl x5)] [] (yS e M) (yI e Q)
def R_match_85 (e : yE) (d : Nat) (x1 x5 : Int) (M : xM) (Q : Int → xM → Prop) : Prop := ∀ (o2 o3 o4 : Option xV), xGo xft xNf xmt xtr d 123 85 [some (.inr (some 59)), some (.inl x1), o2, o3, o4, some (.inl x5)] [] (yS e M) (yI e Q)
theorem t_match_0 {e : yE} {d : Nat} {x1 x2 x3 x4 : Int} {M : xM} {Q : Int → xM → Prop} (hs : RSh e) (h :
    ∀ M1 : xM, M1 = xup M 59 0 (0 : Int) → 
    ((rg x1) ∧ ((x1 < (1 : Int) → 
      (Q (-1 : Int) M1)) ∧ 
    (¬ (x1 < (1 : Int)) → 
      ((rg x1) ∧ (((3 : Int) < x1 → 
        (Q (-1 : Int) M1)) ∧ 
      (¬ ((3 : Int) < x1) → 
        ((rg (M1 59 25)) ∧ ((¬ (M1 59 25) = (20 : Int) → 
          (R_match_29 e d x1 x2 x3 x4 (0 : Int) M1 Q)) ∧ 
        (¬ (¬ (M1 59 25) = (20 : Int)) → 
          (Q (-1 : Int) M1))))))))))) : R_match_0 e d x1 x2 x3 x4 M Q := by
  intro o5
  refine xGo.in ?_
  refine And.intro (rs_ob hs) ?_
  obtain ⟨M1, hM1⟩ : ∃ z : xM, z = xup M 59 0 (0 : Int) := ⟨_, rfl⟩
  refine xgo_st (e := e) (M := M1) (by subst hM1; rfl) ?_
  replace h := h M1 hM1
  refine And.intro (⟨h.1, rg_lit (by decide)⟩) (And.intro (fun c => ?_) (fun c => ?_))
  · replace h := h.2.1 c
    exact yI_ret h
  · replace h := h.2.2 c
    refine And.intro (⟨h.1, rg_lit (by decide)⟩) (And.intro (fun c => ?_) (fun c => ?_))
    · replace h := h.2.1 c
      exact yI_ret h
    · replace h := h.2.2 c
      refine And.intro (rs_ob hs) ?_
      refine And.intro (⟨h.1, rg_lit (by decide)⟩) (And.intro (fun c => ?_) (fun c => ?_))
      · replace h := h.2.1 c
        exact h
      · replace h := h.2.2 c
        exact yI_ret h
theorem t_match_29 {e : yE} {d : Nat} {x1 x2 x3 x4 x5 : Int} {M : xM} {Q : Int → xM → Prop} (hs : RSh e) (h :
    (rg x5 ∧ rg x1) ∧ ((x1 ≤ x5 → 
      (R_match_85 e d x1 (0 : Int) M Q)) ∧ 
    (¬ (x1 ≤ x5) → 
      (R_pick e d x5 x2 x3 x4 M (fun y2 M1 => 
      R_isType e d y2 M1 (fun y4 M3 => 
      (rg y4) ∧ ((¬ y4 = 0 → 
        (R_pick e d x5 x2 x3 x4 M3 (fun y6 M5 => 
        (0 ≤ (((3 : Int) * (M3 59 25)) + x5) ∧ (((3 : Int) * (M3 59 25)) + x5) < 60) ∧ 
        (∀ M7 : xM, M7 = xup M5 76 (((3 : Int) * (M3 59 25)) + x5) y6 → 
        (R_match_29 e d x1 x2 x3 x4 (x5 + 1) M7 Q))))) ∧ 
      (¬ (¬ y4 = 0) → 
        (Q (-1 : Int) M3))))))))) : R_match_29 e d x1 x2 x3 x4 x5 M Q := by
  refine xGo.in ?_
  refine And.intro (⟨h.1.1, h.1.2⟩) (And.intro (fun c => ?_) (fun c => ?_))
  · replace h := h.2.1 c
    exact h _ _ _
  · replace h := h.2.2 c
    refine And.intro ⟨Nat.le_of_ble_eq_true rfl, Nat.le_of_ble_eq_true rfl, trivial⟩ ?_
    refine yI_use h (fun y2 M1 h => ?_)
    refine And.intro ⟨Nat.le_of_ble_eq_true rfl, Nat.le_of_ble_eq_true rfl, rs_ob hs⟩ ?_
    refine yI_use h (fun y4 M3 h => ?_)
    refine And.intro (h.1) (And.intro (fun c => ?_) (fun c => ?_))
    · replace h := h.2.1 c
      refine And.intro (rs_ob hs) ?_
      refine And.intro (rs_ob hs) ?_
      refine And.intro ⟨Nat.le_of_ble_eq_true rfl, Nat.le_of_ble_eq_true rfl, trivial⟩ ?_
      refine yI_use h (fun y6 M5 h => ?_)
      refine And.intro (xi_st (rs_17 hs) (h.1)) ?_
      replace h := h.2
      obtain ⟨M7, hM7⟩ : ∃ z : xM, z = xup M5 76 (((3 : Int) * (M3 59 25)) + x5) y6 := ⟨_, rfl⟩
      refine xgo_st (e := e) (M := M7) (by subst hM7; rfl) ?_
      replace h := h M7 hM7
      exact h
    · replace h := h.2.2 c
      exact yI_ret h
theorem t_match_85 {e : yE} {d : Nat} {x1 x5 : Int} {M : xM} {Q : Int → xM → Prop} (hs : RSh e) (h :
    (rg x5 ∧ rg (M 59 1)) ∧ (((M 59 1) ≤ x5 → 
      ((0 ≤ (M 59 25) ∧ (M 59 25) < 20) ∧ 
      (∀ M1 : xM, M1 = xup M 75 (M 59 25) x1 → 
      ((0 ≤ (M1 59 25) ∧ (M1 59 25) < 20) ∧ 
      (∀ M2 : xM, M2 = xup M1 77 (M1 59 25) (0 : Int) → 
      (∀ M3 : xM, M3 = xup M2 59 25 ((M2 59 25) + (1 : Int)) → 
      (Q ((M3 59 25) - (1 : Int)) M3))))))) ∧ 
    (¬ ((M 59 1) ≤ x5) → 
      ((0 ≤ x5 ∧ x5 < 8) ∧ 
      ((rg (M 63 x5)) ∧ ((¬ (M 63 x5) = 0 → 
        (R_match_85 e d x1 (x5 + 1) M Q)) ∧ 
      (¬ (¬ (M 63 x5) = 0) → 
        (Q (-1 : Int) M)))))))) : R_match_85 e d x1 x5 M Q := by
  intro o2 o3 o4
  refine xGo.in ?_
  refine And.intro (rs_ob hs) ?_
  refine And.intro (⟨h.1.1, h.1.2⟩) (And.intro (fun c => ?_) (fun c => ?_))
  · replace h := h.2.1 c
    refine And.intro (rs_ob hs) ?_
    refine And.intro (rs_ob hs) ?_
    refine And.intro (xi_st (rs_16 hs) (h.1)) ?_
    replace h := h.2
    obtain ⟨M1, hM1⟩ : ∃ z : xM, z = xup M 75 (M 59 25) x1 := ⟨_, rfl⟩
    refine xgo_st (e := e) (M := M1) (by subst hM1; rfl) ?_
    replace h := h M1 hM1
    refine And.intro (rs_ob hs) ?_
    refine And.intro (rs_ob hs) ?_
    refine And.intro (xi_st (rs_18 hs) (h.1)) ?_
    replace h := h.2
    obtain ⟨M2, hM2⟩ : ∃ z : xM, z = xup M1 77 (M1 59 25) (0 : Int) := ⟨_, rfl⟩
    refine xgo_st (e := e) (M := M2) (by subst hM2; rfl) ?_
    replace h := h M2 hM2
    refine And.intro (rs_ob hs) ?_
    refine And.intro (rs_ob hs) ?_
    obtain ⟨M3, hM3⟩ : ∃ z : xM, z = xup M2 59 25 ((M2 59 25) + (1 : Int)) := ⟨_, rfl⟩
    refine xgo_st (e := e) (M := M3) (by subst hM3; rfl) ?_
    replace h := h M3 hM3
    refine And.intro (rs_ob hs) ?_
    exact yI_ret h
  · replace h := h.2.2 c
    refine And.intro (rs_ob hs) ?_
    refine And.intro (xi_ld (rs_4 hs) (h.1)) ?_
    replace h := h.2
    refine And.intro (h.1) (And.intro (fun c => ?_) (fun c => ?_))
    · replace h := h.2.1 c
      exact h _ _ _
    · replace h := h.2.2 c
      exact yI_ret h
theorem t_match {e : yE} {d : Nat} {x1 : Int} {x2 : Int} {x3 : Int} {x4 : Int} {M : xM} {Q : Int → xM → Prop} (h : R_match_0 e d x1 x2 x3 x4 M Q) : R_match e (d + 1) x1 x2 x3 x4 M Q := h _
def R_isMatch_0 (e : yE) (d : Nat) (x1 : Int) (M : xM) (Q : Int → xM → Prop) : Prop := xGo xft xNf xmt xtr d 124 0 [some (.inr (some 59)), some (.inl x1)] [] (yS e M) (yI e Q)
theorem t_isMatch_0 {e : yE} {d : Nat} {x1 : Int} {M : xM} {Q : Int → xM → Prop} (hs : RSh e) (h :
    (rg x1) ∧ ((x1 < 0 → 
      (Q (0 : Int) M)) ∧ 
    (¬ (x1 < 0) → 
      ((rg x1 ∧ rg (M 59 25)) ∧ (((M 59 25) ≤ x1 → 
        (Q (0 : Int) M)) ∧ 
      (¬ ((M 59 25) ≤ x1) → 
        (Q (1 : Int) M))))))) : R_isMatch_0 e d x1 M Q := by
  refine xGo.in ?_
  refine And.intro (h.1) (And.intro (fun c => ?_) (fun c => ?_))
  · replace h := h.2.1 c
    exact And.intro (by decide) (yI_ret h)
  · replace h := h.2.2 c
    refine And.intro (rs_ob hs) ?_
    refine And.intro (⟨h.1.1, h.1.2⟩) (And.intro (fun c => ?_) (fun c => ?_))
    · replace h := h.2.1 c
      exact And.intro (by decide) (yI_ret h)
    · replace h := h.2.2 c
      exact And.intro (by decide) (yI_ret h)
theorem t_isMatch {e : yE} {d : Nat} {x1 : Int} {M : xM} {Q : Int → xM → Prop} (h : R_isMatch_0 e d x1 M Q) : R_isMatch e (d + 1) x1 M Q := h
def R_patternOf_0 (e : yE) (d : Nat) (x1 x2 x3 : Int) (M : xM) (Q : Int → xM → Prop) : Prop := xGo xft xNf xmt xtr d 125 0 [some (.inr (some 59)), some (.inl x1), some (.inl x2), some (.inl x3)] [] (yS e M) (yI e Q)
theorem t_patternOf_0 {e : yE} {d : Nat} {x1 x2 x3 : Int} {M : xM} {Q : Int → xM → Prop} (hs : RSh e) (h :
    (0 ≤ ((((36 : Int) * x1) + ((3 : Int) * x2)) + x3) ∧ ((((36 : Int) * x1) + ((3 : Int) * x2)) + x3) < 720) ∧ 
    (Q (M 78 ((((36 : Int) * x1) + ((3 : Int) * x2)) + x3)) M)) : R_patternOf_0 e d x1 x2 x3 M Q := by
  refine xGo.in ?_
  refine And.intro (rs_ob hs) ?_
  refine And.intro (xi_ld (rs_19 hs) (h.1)) ?_
  replace h := h.2
  exact yI_ret h
theorem t_patternOf {e : yE} {d : Nat} {x1 : Int} {x2 : Int} {x3 : Int} {M : xM} {Q : Int → xM → Prop} (h : R_patternOf_0 e d x1 x2 x3 M Q) : R_patternOf e (d + 1) x1 x2 x3 M Q := h
def R_typeOfName_0 (e : yE) (d : Nat) (x1 x2 : Int) (M : xM) (Q : Int → xM → Prop) : Prop := ∀ (o3 o4 o5 : Option xV), xGo xft xNf xmt xtr d 126 0 [some (.inr (some 59)), some (.inl x1), some (.inl x2), o3, o4, o5] [] (yS e M) (yI e Q)
def R_typeOfName_19 (e : yE) (d : Nat) (x1 x2 : Int) (M : xM) (Q : Int → xM → Prop) : Prop := ∀ (o3 o4 o5 : Option xV), xGo xft xNf xmt xtr d 126 19 [some (.inr (some 59)), some (.inl x1), some (.inl x2), o3, o4, o5] [] (yS e M) (yI e Q)
def R_typeOfName_36 (e : yE) (d : Nat) (x1 x2 : Int) (M : xM) (Q : Int → xM → Prop) : Prop := ∀ (o3 o4 o5 : Option xV), xGo xft xNf xmt xtr d 126 36 [some (.inr (some 59)), some (.inl x1), some (.inl x2), o3, o4, o5] [] (yS e M) (yI e Q)
def R_typeOfName_70 (e : yE) (d : Nat) (x1 x2 x3 x4 : Int) (M : xM) (Q : Int → xM → Prop) : Prop := ∀ (o5 : Option xV), xGo xft xNf xmt xtr d 126 70 [some (.inr (some 59)), some (.inl x1), some (.inl x2), some (.inl x3), some (.inl x4), o5] [] (yS e M) (yI e Q)
theorem t_typeOfName_0 {e : yE} {d : Nat} {x1 x2 : Int} {M : xM} {Q : Int → xM → Prop} (hs : RSh e) (h :
    (0 ≤ x1 ∧ x1 < 300) ∧ 
    ((rg (M 68 x1)) ∧ (((M 68 x1) = 0 → 
      (R_typeOfName_19 e d x1 x2 M Q)) ∧ 
    (¬ ((M 68 x1) = 0) → 
      ((0 ≤ x1 ∧ x1 < 300) ∧ 
      ((rg (M 68 x1)) ∧ ((¬ (M 68 x1) = (3 : Int) → 
        (R_typeOfName_36 e d x1 x2 M Q)) ∧ 
      (¬ (¬ (M 68 x1) = (3 : Int)) → 
        (R_typeOfName_19 e d x1 x2 M Q))))))))) : R_typeOfName_0 e d x1 x2 M Q := by
  intro o3 o4 o5
  refine xGo.in ?_
  refine And.intro (rs_ob hs) ?_
  refine And.intro (xi_ld (rs_9 hs) (h.1)) ?_
  replace h := h.2
  refine And.intro (h.1) (And.intro (fun c => ?_) (fun c => ?_))
  · replace h := h.2.1 c
    exact h _ _ _
  · replace h := h.2.2 c
    refine And.intro (rs_ob hs) ?_
    refine And.intro (xi_ld (rs_9 hs) (h.1)) ?_
    replace h := h.2
    refine And.intro (⟨h.1, rg_lit (by decide)⟩) (And.intro (fun c => ?_) (fun c => ?_))
    · replace h := h.2.1 c
      exact h _ _ _
    · replace h := h.2.2 c
      exact h _ _ _
theorem t_typeOfName_19 {e : yE} {d : Nat} {x1 x2 : Int} {M : xM} {Q : Int → xM → Prop} (hs : RSh e) (h :
    (0 ≤ x1 ∧ x1 < 300) ∧ 
    ((rg (M 70 x1) ∧ rg x2) ∧ ((¬ (M 70 x1) = x2 → 
      (R_typeOfName_36 e d x1 x2 M Q)) ∧ 
    (¬ (¬ (M 70 x1) = x2) → 
      ((0 ≤ x1 ∧ x1 < 300) ∧ 
      (Q (M 69 x1) M)))))) : R_typeOfName_19 e d x1 x2 M Q := by
  intro o3 o4 o5
  refine xGo.in ?_
  refine And.intro (rs_ob hs) ?_
  refine And.intro (xi_ld (rs_11 hs) (h.1)) ?_
  replace h := h.2
  refine And.intro (⟨h.1.1, h.1.2⟩) (And.intro (fun c => ?_) (fun c => ?_))
  · replace h := h.2.1 c
    exact h _ _ _
  · replace h := h.2.2 c
    refine And.intro (rs_ob hs) ?_
    refine And.intro (xi_ld (rs_10 hs) (h.1)) ?_
    replace h := h.2
    exact yI_ret h
theorem t_typeOfName_36 {e : yE} {d : Nat} {x1 x2 : Int} {M : xM} {Q : Int → xM → Prop} (hs : RSh e) (h :
    (0 ≤ x1 ∧ x1 < 300) ∧ 
    ((rg (M 68 x1)) ∧ ((¬ (M 68 x1) = (2 : Int) → 
      (R_typeOfName_70 e d x1 x2 (1 : Int) (0 : Int) M Q)) ∧ 
    (¬ (¬ (M 68 x1) = (2 : Int)) → 
      ((0 ≤ x1 ∧ x1 < 300) ∧ 
      ((0 ≤ x1 ∧ x1 < 300) ∧ 
      (R_countOf e d (M 69 x1) (M 70 x1) M (fun y2 M1 => 
      R_typeOfName_70 e d x1 x2 y2 (0 : Int) M1 Q)))))))) : R_typeOfName_36 e d x1 x2 M Q := by
  intro o3 o4 o5
  refine xGo.in ?_
  refine And.intro (rs_ob hs) ?_
  refine And.intro (xi_ld (rs_9 hs) (h.1)) ?_
  replace h := h.2
  refine And.intro (⟨h.1, rg_lit (by decide)⟩) (And.intro (fun c => ?_) (fun c => ?_))
  · replace h := h.2.1 c
    exact h _
  · replace h := h.2.2 c
    refine And.intro (rs_ob hs) ?_
    refine And.intro (xi_ld (rs_10 hs) (h.1)) ?_
    replace h := h.2
    refine And.intro (rs_ob hs) ?_
    refine And.intro (xi_ld (rs_11 hs) (h.1)) ?_
    replace h := h.2
    refine And.intro ⟨Nat.le_of_ble_eq_true rfl, Nat.le_of_ble_eq_true rfl, rs_ob hs⟩ ?_
    refine yI_use h (fun y2 M1 h => ?_)
    exact h _
theorem t_typeOfName_70 {e : yE} {d : Nat} {x1 x2 x3 x4 : Int} {M : xM} {Q : Int → xM → Prop} (hs : RSh e) (h :
    (rg x4 ∧ rg x3) ∧ ((x3 ≤ x4 → 
      (Q (-1 : Int) M)) ∧ 
    (¬ (x3 ≤ x4) → 
      ((0 ≤ (((3 : Int) * x1) + x4) ∧ (((3 : Int) * x1) + x4) < 900) ∧ 
      (R_hasName e d (M 71 (((3 : Int) * x1) + x4)) x2 M (fun y2 M1 => 
      (rg y2) ∧ ((y2 = 0 → 
        (R_typeOfName_70 e d x1 x2 x3 (x4 + 1) M1 Q)) ∧ 
      (¬ (y2 = 0) → 
        (R_typeOfName e d (M 71 (((3 : Int) * x1) + x4)) x2 M1 (fun y4 M3 => 
        Q y4 M3)))))))))) : R_typeOfName_70 e d x1 x2 x3 x4 M Q := by
  intro o5
  refine xGo.in ?_
  refine And.intro (⟨h.1.1, h.1.2⟩) (And.intro (fun c => ?_) (fun c => ?_))
  · replace h := h.2.1 c
    exact yI_ret h
  · replace h := h.2.2 c
    refine And.intro (rs_ob hs) ?_
    refine And.intro (xi_ld (rs_12 hs) (h.1)) ?_
    replace h := h.2
    refine And.intro ⟨Nat.le_of_ble_eq_true rfl, Nat.le_of_ble_eq_true rfl, rs_ob hs⟩ ?_
    refine yI_use h (fun y2 M1 h => ?_)
    refine And.intro (h.1) (And.intro (fun c => ?_) (fun c => ?_))
    · replace h := h.2.1 c
      exact h _
    · replace h := h.2.2 c
      refine And.intro ⟨Nat.le_of_ble_eq_true rfl, Nat.le_of_ble_eq_true rfl, rs_ob hs⟩ ?_
      refine yI_use h (fun y4 M3 h => ?_)
      exact yI_ret h
theorem t_typeOfName {e : yE} {d : Nat} {x1 : Int} {x2 : Int} {M : xM} {Q : Int → xM → Prop} (h : R_typeOfName_0 e d x1 x2 M Q) : R_typeOfName e (d + 1) x1 x2 M Q := h _ _ _
def R_row_0 (e : yE) (d : Nat) (x1 x2 x3 x4 x5 x6 : Int) (M : xM) (Q : Int → xM → Prop) : Prop := ∀ (o7 o8 o9 o10 o11 o12 : Option xV), xGo xft xNf xmt xtr d 127 0 [some (.inr (some 59)), some (.inl x1), some (.inl x2), some (.inl x3), some (.inl x4), some (.inl x5), some (.inl x6), o7, o8, o9, o10, o11, o12] [] (yS e M) (yI e Q)
def R_row_41 (e : yE) (d : Nat) (x1 x2 x3 x4 x5 x6 x7 x8 x9 x10 x11 : Int) (M : xM) (Q : Int → xM → Prop) : Prop := ∀ (o12 : Option xV), xGo xft xNf xmt xtr d 127 41 [some (.inr (some 59)), some (.inl x1), some (.inl x2), some (.inl x3), some (.inl x4), some (.inl x5), some (.inl x6), some (.inl x7), some (.inl x8), some (.inl x9), some (.inl x10), some (.inl x11), o12] [] (yS e M) (yI e Q)
def R_row_140 (e : yE) (d : Nat) (x1 x2 x3 x4 x5 x6 x7 x9 x10 x11 x12 s0 : Int) (M : xM) (Q : Int → xM → Prop) : Prop := ∀ (o8 : Option xV), xGo xft xNf xmt xtr d 127 140 [some (.inr (some 59)), some (.inl x1), some (.inl x2), some (.inl x3), some (.inl x4), some (.inl x5), some (.inl x6), some (.inl x7), o8, some (.inl x9), some (.inl x10), some (.inl x11), some (.inl x12)] [.inl s0] (yS e M) (yI e Q)
def R_row_182 (e : yE) (d : Nat) (x1 x2 x3 x4 x5 x6 x7 x8 x10 x11 x12 s0 : Int) (M : xM) (Q : Int → xM → Prop) : Prop := ∀ (o9 : Option xV), xGo xft xNf xmt xtr d 127 182 [some (.inr (some 59)), some (.inl x1), some (.inl x2), some (.inl x3), some (.inl x4), some (.inl x5), some (.inl x6), some (.inl x7), some (.inl x8), o9, some (.inl x10), some (.inl x11), some (.inl x12)] [.inl s0] (yS e M) (yI e Q)
def R_row_258 (e : yE) (d : Nat) (x1 x2 x3 x4 x5 x6 x11 : Int) (M : xM) (Q : Int → xM → Prop) : Prop := ∀ (o7 o8 o9 o10 o12 : Option xV), xGo xft xNf xmt xtr d 127 258 [some (.inr (some 59)), some (.inl x1), some (.inl x2), some (.inl x3), some (.inl x4), some (.inl x5), some (.inl x6), o7, o8, o9, o10, some (.inl x11), o12] [] (yS e M) (yI e Q)
theorem t_row_0 {e : yE} {d : Nat} {x1 x2 x3 x4 x5 x6 : Int} {M : xM} {Q : Int → xM → Prop} (hs : RSh e) (h :
    ∀ M1 : xM, M1 = xup M 59 0 (0 : Int) → 
    (R_isMatch e d x1 M1 (fun y3 M2 => 
    (rg y3) ∧ ((y3 = 0 → 
      (Q (-1 : Int) M2)) ∧ 
    (¬ (y3 = 0) → 
      ((0 ≤ x1 ∧ x1 < 20) ∧ 
      ((rg (M2 77 x1)) ∧ ((¬ (M2 77 x1) = (12 : Int) → 
        (R_row_41 e d x1 x2 x3 x4 x5 x6 (0 : Int) (0 : Int) (0 : Int) (0 : Int) (0 : Int) M2 Q)) ∧ 
      (¬ (¬ (M2 77 x1) = (12 : Int)) → 
        (Q (-1 : Int) M2)))))))))) : R_row_0 e d x1 x2 x3 x4 x5 x6 M Q := by
  intro o7 o8 o9 o10 o11 o12
  refine xGo.in ?_
  refine And.intro (rs_ob hs) ?_
  obtain ⟨M1, hM1⟩ : ∃ z : xM, z = xup M 59 0 (0 : Int) := ⟨_, rfl⟩
  refine xgo_st (e := e) (M := M1) (by subst hM1; rfl) ?_
  replace h := h M1 hM1
  refine And.intro ⟨Nat.le_of_ble_eq_true rfl, Nat.le_of_ble_eq_true rfl, rs_ob hs⟩ ?_
  refine yI_use h (fun y3 M2 h => ?_)
  refine And.intro (h.1) (And.intro (fun c => ?_) (fun c => ?_))
  · replace h := h.2.1 c
    exact yI_ret h
  · replace h := h.2.2 c
    refine And.intro (rs_ob hs) ?_
    refine And.intro (xi_ld (rs_18 hs) (h.1)) ?_
    replace h := h.2
    refine And.intro (⟨h.1, rg_lit (by decide)⟩) (And.intro (fun c => ?_) (fun c => ?_))
    · replace h := h.2.1 c
      exact h _
    · replace h := h.2.2 c
      exact yI_ret h
theorem t_row_41 {e : yE} {d : Nat} {x1 x2 x3 x4 x5 x6 x7 x8 x9 x10 x11 : Int} {M : xM} {Q : Int → xM → Prop} (hs : RSh e) (h :
    (0 ≤ x1 ∧ x1 < 20) ∧ 
    ((rg x11 ∧ rg (M 75 x1)) ∧ (((M 75 x1) ≤ x11 → 
      ((rg x5) ∧ ((x5 = (-1 : Int) → 
        (R_row_258 e d x1 x2 x3 x4 x5 x6 (0 : Int) M Q)) ∧ 
      (¬ (x5 = (-1 : Int)) → 
        ((rg x8) ∧ ((¬ x8 = 0 → 
          (Q (-1 : Int) M)) ∧ 
        (¬ (¬ x8 = 0) → 
          ((rg x9) ∧ ((x9 = 0 → 
            (Q (-1 : Int) M)) ∧ 
          (¬ (x9 = 0) → 
            ((rg x10) ∧ ((¬ x10 = 0 → 
              (R_row_258 e d x1 x2 x3 x4 x5 x6 (0 : Int) M Q)) ∧ 
            (¬ (¬ x10 = 0) → 
              (Q (-1 : Int) M)))))))))))))) ∧ 
    (¬ ((M 75 x1) ≤ x11) → 
      (R_pick e d x11 x2 x3 x4 M (fun y2 M1 => 
      R_isPattern e d y2 M1 (fun y4 M3 => 
      (rg y4) ∧ ((y4 = 0 → 
        (Q (-1 : Int) M3)) ∧ 
      (¬ (y4 = 0) → 
        ((0 ≤ y2 ∧ y2 < 300) ∧ 
        ((0 ≤ (((3 : Int) * x1) + x11) ∧ (((3 : Int) * x1) + x11) < 60) ∧ 
        ((rg (M3 69 y2) ∧ rg (M3 76 (((3 : Int) * x1) + x11))) ∧ ((¬ (M3 69 y2) = (M3 76 (((3 : Int) * x1) + x11)) → 
          (Q (-1 : Int) M3)) ∧ 
        (¬ (¬ (M3 69 y2) = (M3 76 (((3 : Int) * x1) + x11))) → 
          ((0 ≤ y2 ∧ y2 < 300) ∧ 
          ((rg (xand32 (M3 73 y2) x7)) ∧ (((xand32 (M3 73 y2) x7) = 0 → 
            ((0 ≤ y2 ∧ y2 < 300) ∧ 
            ((rg x8) ∧ ((¬ x8 = 0 → 
              (R_row_140 e d x1 x2 x3 x4 x5 x6 (xor32 x7 (M3 73 y2)) x9 x10 x11 y2 (1 : Int) M3 Q)) ∧ 
            (¬ (¬ x8 = 0) → 
              ((0 ≤ y2 ∧ y2 < 300) ∧ 
              ((rg (M3 74 y2)) ∧ (((M3 74 y2) = 0 → 
                (R_row_140 e d x1 x2 x3 x4 x5 x6 (xor32 x7 (M3 73 y2)) x9 x10 x11 y2 (0 : Int) M3 Q)) ∧ 
              (¬ ((M3 74 y2) = 0) → 
                (R_row_140 e d x1 x2 x3 x4 x5 x6 (xor32 x7 (M3 73 y2)) x9 x10 x11 y2 (1 : Int) M3 Q)))))))))) ∧ 
          (¬ ((xand32 (M3 73 y2) x7) = 0) → 
            (Q (-1 : Int) M3))))))))))))))))))) : R_row_41 e d x1 x2 x3 x4 x5 x6 x7 x8 x9 x10 x11 M Q := by
  intro o12
  refine xGo.in ?_
  refine And.intro (rs_ob hs) ?_
  refine And.intro (xi_ld (rs_16 hs) (h.1)) ?_
  replace h := h.2
  refine And.intro (⟨h.1.1, h.1.2⟩) (And.intro (fun c => ?_) (fun c => ?_))
  · replace h := h.2.1 c
    refine And.intro (⟨h.1, rg_lit (by decide)⟩) (And.intro (fun c => ?_) (fun c => ?_))
    · replace h := h.2.1 c
      exact h _ _ _ _ _
    · replace h := h.2.2 c
      refine And.intro (h.1) (And.intro (fun c => ?_) (fun c => ?_))
      · replace h := h.2.1 c
        exact yI_ret h
      · replace h := h.2.2 c
        refine And.intro (h.1) (And.intro (fun c => ?_) (fun c => ?_))
        · replace h := h.2.1 c
          exact yI_ret h
        · replace h := h.2.2 c
          refine And.intro (h.1) (And.intro (fun c => ?_) (fun c => ?_))
          · replace h := h.2.1 c
            exact h _ _ _ _ _
          · replace h := h.2.2 c
            exact yI_ret h
  · replace h := h.2.2 c
    refine And.intro ⟨Nat.le_of_ble_eq_true rfl, Nat.le_of_ble_eq_true rfl, trivial⟩ ?_
    refine yI_use h (fun y2 M1 h => ?_)
    refine And.intro ⟨Nat.le_of_ble_eq_true rfl, Nat.le_of_ble_eq_true rfl, rs_ob hs⟩ ?_
    refine yI_use h (fun y4 M3 h => ?_)
    refine And.intro (h.1) (And.intro (fun c => ?_) (fun c => ?_))
    · replace h := h.2.1 c
      exact yI_ret h
    · replace h := h.2.2 c
      refine And.intro (rs_ob hs) ?_
      refine And.intro (xi_ld (rs_10 hs) (h.1)) ?_
      replace h := h.2
      refine And.intro (rs_ob hs) ?_
      refine And.intro (xi_ld (rs_17 hs) (h.1)) ?_
      replace h := h.2
      refine And.intro (⟨h.1.1, h.1.2⟩) (And.intro (fun c => ?_) (fun c => ?_))
      · replace h := h.2.1 c
        exact yI_ret h
      · replace h := h.2.2 c
        refine And.intro (rs_ob hs) ?_
        refine And.intro (xi_ld (rs_14 hs) (h.1)) ?_
        replace h := h.2
        refine And.intro (h.1) (And.intro (fun c => ?_) (fun c => ?_))
        · replace h := h.2.1 c
          refine And.intro (rs_ob hs) ?_
          refine And.intro (xi_ld (rs_14 hs) (h.1)) ?_
          replace h := h.2
          refine And.intro (h.1) (And.intro (fun c => ?_) (fun c => ?_))
          · replace h := h.2.1 c
            exact h _
          · replace h := h.2.2 c
            refine And.intro (rs_ob hs) ?_
            refine And.intro (xi_ldb (rs_15 hs) (h.1)) ?_
            replace h := h.2
            refine And.intro (h.1) (And.intro (fun c => ?_) (fun c => ?_))
            · replace h := h.2.1 c
              exact h _
            · replace h := h.2.2 c
              exact h _
        · replace h := h.2.2 c
          exact yI_ret h
theorem t_row_140 {e : yE} {d : Nat} {x1 x2 x3 x4 x5 x6 x7 x9 x10 x11 x12 s0 : Int} {M : xM} {Q : Int → xM → Prop} (hs : RSh e) (h :
    (rg x9) ∧ ((¬ x9 = 0 → 
      (R_row_182 e d x1 x2 x3 x4 x5 x6 x7 s0 x10 x11 x12 (1 : Int) M Q)) ∧ 
    (¬ (¬ x9 = 0) → 
      (R_isName e d x5 M (fun y2 M1 => 
      (rg y2) ∧ ((y2 = 0 → 
        (R_row_182 e d x1 x2 x3 x4 x5 x6 x7 s0 x10 x11 x12 (0 : Int) M1 Q)) ∧ 
      (¬ (y2 = 0) → 
        (R_hasName e d x12 x5 M1 (fun y4 M3 => 
        (rg y4) ∧ ((y4 = 0 → 
          (R_row_182 e d x1 x2 x3 x4 x5 x6 x7 s0 x10 x11 x12 (0 : Int) M3 Q)) ∧ 
        (¬ (y4 = 0) → 
          (R_typeOfName e d x12 x5 M3 (fun y6 M5 => 
          (rg y6) ∧ ((¬ y6 = 0 → 
            (R_row_182 e d x1 x2 x3 x4 x5 x6 x7 s0 x10 x11 x12 (0 : Int) M5 Q)) ∧ 
          (¬ (¬ y6 = 0) → 
            (R_row_182 e d x1 x2 x3 x4 x5 x6 x7 s0 x10 x11 x12 (1 : Int) M5 Q)))))))))))))))) : R_row_140 e d x1 x2 x3 x4 x5 x6 x7 x9 x10 x11 x12 s0 M Q := by
  intro o8
  refine xGo.in ?_
  refine And.intro (h.1) (And.intro (fun c => ?_) (fun c => ?_))
  · replace h := h.2.1 c
    exact h _
  · replace h := h.2.2 c
    refine And.intro ⟨Nat.le_of_ble_eq_true rfl, Nat.le_of_ble_eq_true rfl, trivial⟩ ?_
    refine yI_use h (fun y2 M1 h => ?_)
    refine And.intro (h.1) (And.intro (fun c => ?_) (fun c => ?_))
    · replace h := h.2.1 c
      exact h _
    · replace h := h.2.2 c
      refine And.intro ⟨Nat.le_of_ble_eq_true rfl, Nat.le_of_ble_eq_true rfl, rs_ob hs⟩ ?_
      refine yI_use h (fun y4 M3 h => ?_)
      refine And.intro (h.1) (And.intro (fun c => ?_) (fun c => ?_))
      · replace h := h.2.1 c
        exact h _
      · replace h := h.2.2 c
        refine And.intro ⟨Nat.le_of_ble_eq_true rfl, Nat.le_of_ble_eq_true rfl, rs_ob hs⟩ ?_
        refine yI_use h (fun y6 M5 h => ?_)
        refine And.intro (h.1) (And.intro (fun c => ?_) (fun c => ?_))
        · replace h := h.2.1 c
          exact h _
        · replace h := h.2.2 c
          exact h _
theorem t_row_182 {e : yE} {d : Nat} {x1 x2 x3 x4 x5 x6 x7 x8 x10 x11 x12 s0 : Int} {M : xM} {Q : Int → xM → Prop} (hs : RSh e) (h :
    (rg x10) ∧ ((¬ x10 = 0 → 
      (R_row_41 e d x1 x2 x3 x4 x5 x6 x7 x8 s0 (1 : Int) (x11 + 1) M Q)) ∧ 
    (¬ (¬ x10 = 0) → 
      (R_isName e d x6 M (fun y2 M1 => 
      (rg y2) ∧ ((y2 = 0 → 
        (R_row_41 e d x1 x2 x3 x4 x5 x6 x7 x8 s0 (0 : Int) (x11 + 1) M1 Q)) ∧ 
      (¬ (y2 = 0) → 
        (R_hasName e d x12 x6 M1 (fun y4 M3 => 
        (rg y4) ∧ ((y4 = 0 → 
          (R_row_41 e d x1 x2 x3 x4 x5 x6 x7 x8 s0 (0 : Int) (x11 + 1) M3 Q)) ∧ 
        (¬ (y4 = 0) → 
          (R_typeOfName e d x12 x6 M3 (fun y6 M5 => 
          (rg y6) ∧ ((¬ y6 = 0 → 
            (R_row_41 e d x1 x2 x3 x4 x5 x6 x7 x8 s0 (0 : Int) (x11 + 1) M5 Q)) ∧ 
          (¬ (¬ y6 = 0) → 
            (R_row_41 e d x1 x2 x3 x4 x5 x6 x7 x8 s0 (1 : Int) (x11 + 1) M5 Q)))))))))))))))) : R_row_182 e d x1 x2 x3 x4 x5 x6 x7 x8 x10 x11 x12 s0 M Q := by
  intro o9
  refine xGo.in ?_
  refine And.intro (h.1) (And.intro (fun c => ?_) (fun c => ?_))
  · replace h := h.2.1 c
    exact h _
  · replace h := h.2.2 c
    refine And.intro ⟨Nat.le_of_ble_eq_true rfl, Nat.le_of_ble_eq_true rfl, trivial⟩ ?_
    refine yI_use h (fun y2 M1 h => ?_)
    refine And.intro (h.1) (And.intro (fun c => ?_) (fun c => ?_))
    · replace h := h.2.1 c
      exact h _
    · replace h := h.2.2 c
      refine And.intro ⟨Nat.le_of_ble_eq_true rfl, Nat.le_of_ble_eq_true rfl, rs_ob hs⟩ ?_
      refine yI_use h (fun y4 M3 h => ?_)
      refine And.intro (h.1) (And.intro (fun c => ?_) (fun c => ?_))
      · replace h := h.2.1 c
        exact h _
      · replace h := h.2.2 c
        refine And.intro ⟨Nat.le_of_ble_eq_true rfl, Nat.le_of_ble_eq_true rfl, rs_ob hs⟩ ?_
        refine yI_use h (fun y6 M5 h => ?_)
        refine And.intro (h.1) (And.intro (fun c => ?_) (fun c => ?_))
        · replace h := h.2.1 c
          exact h _
        · replace h := h.2.2 c
          exact h _
theorem t_row_258 {e : yE} {d : Nat} {x1 x2 x3 x4 x5 x6 x11 : Int} {M : xM} {Q : Int → xM → Prop} (hs : RSh e) (h :
    (0 ≤ x1 ∧ x1 < 20) ∧ 
    ((rg x11 ∧ rg (M 75 x1)) ∧ (((M 75 x1) ≤ x11 → 
      ((0 ≤ x1 ∧ x1 < 20) ∧ 
      ((0 ≤ (((12 : Int) * x1) + (M 77 x1)) ∧ (((12 : Int) * x1) + (M 77 x1)) < 240) ∧ 
      (∀ M1 : xM, M1 = xup M 79 (((12 : Int) * x1) + (M 77 x1)) x5 → 
      ((0 ≤ x1 ∧ x1 < 20) ∧ 
      ((0 ≤ (((12 : Int) * x1) + (M1 77 x1)) ∧ (((12 : Int) * x1) + (M1 77 x1)) < 240) ∧ 
      (∀ M2 : xM, M2 = xup M1 80 (((12 : Int) * x1) + (M1 77 x1)) x6 → 
      ((0 ≤ x1 ∧ x1 < 20) ∧ 
      ((0 ≤ x1 ∧ x1 < 20) ∧ 
      (∀ M3 : xM, M3 = xup M2 77 x1 ((M2 77 x1) + (1 : Int)) → 
      ((0 ≤ x1 ∧ x1 < 20) ∧ 
      (∀ M4 : xM, M4 = xup M3 96 x1 (0 : Int) → 
      ((0 ≤ x1 ∧ x1 < 20) ∧ 
      (Q ((M4 77 x1) - (1 : Int)) M4)))))))))))))) ∧ 
    (¬ ((M 75 x1) ≤ x11) → 
      ((0 ≤ x1 ∧ x1 < 20) ∧ 
      (R_pick e d x11 x2 x3 x4 M (fun y6 M5 => 
      (0 ≤ ((((36 : Int) * x1) + ((3 : Int) * (M 77 x1))) + x11) ∧ ((((36 : Int) * x1) + ((3 : Int) * (M 77 x1))) + x11) < 720) ∧ 
      (∀ M7 : xM, M7 = xup M5 78 ((((36 : Int) * x1) + ((3 : Int) * (M 77 x1))) + x11) y6 → 
      (R_row_258 e d x1 x2 x3 x4 x5 x6 (x11 + 1) M7 Q))))))))) : R_row_258 e d x1 x2 x3 x4 x5 x6 x11 M Q := by
  intro o7 o8 o9 o10 o12
  refine xGo.in ?_
  refine And.intro (rs_ob hs) ?_
  refine And.intro (xi_ld (rs_16 hs) (h.1)) ?_
  replace h := h.2
  refine And.intro (⟨h.1.1, h.1.2⟩) (And.intro (fun c => ?_) (fun c => ?_))
  · replace h := h.2.1 c
    refine And.intro (rs_ob hs) ?_
    refine And.intro (rs_ob hs) ?_
    refine And.intro (xi_ld (rs_18 hs) (h.1)) ?_
    replace h := h.2
    refine And.intro (xi_st (rs_20 hs) (h.1)) ?_
    replace h := h.2
    obtain ⟨M1, hM1⟩ : ∃ z : xM, z = xup M 79 (((12 : Int) * x1) + (M 77 x1)) x5 := ⟨_, rfl⟩
    refine xgo_st (e := e) (M := M1) (by subst hM1; rfl) ?_
    replace h := h M1 hM1
    refine And.intro (rs_ob hs) ?_
    refine And.intro (rs_ob hs) ?_
    refine And.intro (xi_ld (rs_18 hs) (h.1)) ?_
    replace h := h.2
    refine And.intro (xi_st (rs_21 hs) (h.1)) ?_
    replace h := h.2
    obtain ⟨M2, hM2⟩ : ∃ z : xM, z = xup M1 80 (((12 : Int) * x1) + (M1 77 x1)) x6 := ⟨_, rfl⟩
    refine xgo_st (e := e) (M := M2) (by subst hM2; rfl) ?_
    replace h := h M2 hM2
    refine And.intro (rs_ob hs) ?_
    refine And.intro (xi_ld (rs_18 hs) (h.1)) ?_
    replace h := h.2
    refine And.intro (xi_st (rs_18 hs) (h.1)) ?_
    replace h := h.2
    obtain ⟨M3, hM3⟩ : ∃ z : xM, z = xup M2 77 x1 ((M2 77 x1) + (1 : Int)) := ⟨_, rfl⟩
    refine xgo_st (e := e) (M := M3) (by subst hM3; rfl) ?_
    replace h := h M3 hM3
    refine And.intro (rs_ob hs) ?_
    refine And.intro (xi_stv (rs_37 hs) (h.1) (by decide)) ?_
    replace h := h.2
    obtain ⟨M4, hM4⟩ : ∃ z : xM, z = xup M3 96 x1 (0 : Int) := ⟨_, rfl⟩
    refine xgo_st (e := e) (M := M4) (by subst hM4; rfl) ?_
    replace h := h M4 hM4
    refine And.intro (rs_ob hs) ?_
    refine And.intro (xi_ld (rs_18 hs) (h.1)) ?_
    replace h := h.2
    exact yI_ret h
  · replace h := h.2.2 c
    refine And.intro (rs_ob hs) ?_
    refine And.intro (rs_ob hs) ?_
    refine And.intro (xi_ld (rs_18 hs) (h.1)) ?_
    replace h := h.2
    refine And.intro ⟨Nat.le_of_ble_eq_true rfl, Nat.le_of_ble_eq_true rfl, trivial⟩ ?_
    refine yI_use h (fun y6 M5 h => ?_)
    refine And.intro (xi_st (rs_19 hs) (h.1)) ?_
    replace h := h.2
    obtain ⟨M7, hM7⟩ : ∃ z : xM, z = xup M5 78 ((((36 : Int) * x1) + ((3 : Int) * (M 77 x1))) + x11) y6 := ⟨_, rfl⟩
    refine xgo_st (e := e) (M := M7) (by subst hM7; rfl) ?_
    replace h := h M7 hM7
    exact h _ _ _ _ _
theorem t_row {e : yE} {d : Nat} {x1 : Int} {x2 : Int} {x3 : Int} {x4 : Int} {x5 : Int} {x6 : Int} {M : xM} {Q : Int → xM → Prop} (h : R_row_0 e d x1 x2 x3 x4 x5 x6 M Q) : R_row e (d + 1) x1 x2 x3 x4 x5 x6 M Q := h _ _ _ _ _ _
def R_doesMatch_0 (e : yE) (d : Nat) (x1 x2 : Int) (M : xM) (Q : Int → xM → Prop) : Prop := ∀ (o3 o4 o5 : Option xV), xGo xft xNf xmt xtr d 128 0 [some (.inr (some 59)), some (.inl x1), some (.inl x2), o3, o4, o5] [] (yS e M) (yI e Q)
def R_doesMatch_48 (e : yE) (d : Nat) (x2 x3 : Int) (M : xM) (Q : Int → xM → Prop) : Prop := ∀ (o1 o4 o5 : Option xV), xGo xft xNf xmt xtr d 128 48 [some (.inr (some 59)), o1, some (.inl x2), some (.inl x3), o4, o5] [] (yS e M) (yI e Q)
def R_doesMatch_61 (e : yE) (d : Nat) (x2 x3 : Int) (M : xM) (Q : Int → xM → Prop) : Prop := ∀ (o1 o4 o5 : Option xV), xGo xft xNf xmt xtr d 128 61 [some (.inr (some 59)), o1, some (.inl x2), some (.inl x3), o4, o5] [] (yS e M) (yI e Q)
def R_doesMatch_77 (e : yE) (d : Nat) (x1 x2 x3 : Int) (M : xM) (Q : Int → xM → Prop) : Prop := ∀ (o4 o5 : Option xV), xGo xft xNf xmt xtr d 128 77 [some (.inr (some 59)), some (.inl x1), some (.inl x2), some (.inl x3), o4, o5] [] (yS e M) (yI e Q)
def R_doesMatch_98 (e : yE) (d : Nat) (x1 x2 : Int) (M : xM) (Q : Int → xM → Prop) : Prop := ∀ (o3 o4 o5 : Option xV), xGo xft xNf xmt xtr d 128 98 [some (.inr (some 59)), some (.inl x1), some (.inl x2), o3, o4, o5] [] (yS e M) (yI e Q)
def R_doesMatch_138 (e : yE) (d : Nat) (x1 x2 x3 : Int) (M : xM) (Q : Int → xM → Prop) : Prop := ∀ (o4 o5 : Option xV), xGo xft xNf xmt xtr d 128 138 [some (.inr (some 59)), some (.inl x1), some (.inl x2), some (.inl x3), o4, o5] [] (yS e M) (yI e Q)
def R_doesMatch_158 (e : yE) (d : Nat) (x1 x2 x3 x4 x5 : Int) (M : xM) (Q : Int → xM → Prop) : Prop := xGo xft xNf xmt xtr d 128 158 [some (.inr (some 59)), some (.inl x1), some (.inl x2), some (.inl x3), some (.inl x4), some (.inl x5)] [] (yS e M) (yI e Q)
theorem t_doesMatch_0 {e : yE} {d : Nat} {x1 x2 : Int} {M : xM} {Q : Int → xM → Prop} (hs : RSh e) (h :
    (0 ≤ x1 ∧ x1 < 300) ∧ 
    ((0 ≤ x1 ∧ x1 < 300) ∧ 
    ((rg (M 68 x1)) ∧ (((M 68 x1) < 0 ∨ 4 < (M 68 x1)) → 
    (R_doesMatch_138 e d x1 x2 (M 70 x1) M Q)) ∧ 
    ((M 68 x1) = 0 → 
    (R_doesMatch_48 e d x2 (M 70 x1) M Q)) ∧ 
    ((M 68 x1) = 1 → 
    (R_doesMatch_61 e d x2 (M 70 x1) M Q)) ∧ 
    ((M 68 x1) = 2 → 
    (R_doesMatch_138 e d x1 x2 (M 70 x1) M Q)) ∧ 
    ((M 68 x1) = 3 → 
    (R_doesMatch_77 e d x1 x2 (M 70 x1) M Q)) ∧ 
    ((M 68 x1) = 4 → 
    (R_doesMatch_98 e d x1 x2 M Q))))) : R_doesMatch_0 e d x1 x2 M Q := by
  intro o3 o4 o5
  refine xGo.in ?_
  refine And.intro (rs_ob hs) ?_
  refine And.intro (xi_ld (rs_11 hs) (h.1)) ?_
  replace h := h.2
  refine And.intro (rs_ob hs) ?_
  refine And.intro (xi_ld (rs_9 hs) (h.1)) ?_
  replace h := h.2
  obtain ⟨hr, h0, h1, h2, h3, h4, h5⟩ := h
  refine And.intro hr (And.intro (fun c => ?_) (fun c => ?_))
  · have h := h0 c
    exact h _ _
  · have c2 : ¬ ((M 68 x1) < 0 ∨ 4 < (M 68 x1)) := c
    rcases (show (M 68 x1) = 0 ∨ (M 68 x1) = 1 ∨ (M 68 x1) = 2 ∨ (M 68 x1) = 3 ∨ (M 68 x1) = 4 by omega) with hv | hv | hv | hv | hv
    · have h := h1 hv
      show xGo xft xNf xmt xtr d 128 ((((13 : Nat) : Int) + (#[35, 48, 125, 64, 85] : Array Int).getD ((M 68 x1) - 0).toNat 0).toNat) _ _ _ _
      rw [hv]
      exact h _ _ _
    · have h := h2 hv
      show xGo xft xNf xmt xtr d 128 ((((13 : Nat) : Int) + (#[35, 48, 125, 64, 85] : Array Int).getD ((M 68 x1) - 0).toNat 0).toNat) _ _ _ _
      rw [hv]
      exact h _ _ _
    · have h := h3 hv
      show xGo xft xNf xmt xtr d 128 ((((13 : Nat) : Int) + (#[35, 48, 125, 64, 85] : Array Int).getD ((M 68 x1) - 0).toNat 0).toNat) _ _ _ _
      rw [hv]
      exact h _ _
    · have h := h4 hv
      show xGo xft xNf xmt xtr d 128 ((((13 : Nat) : Int) + (#[35, 48, 125, 64, 85] : Array Int).getD ((M 68 x1) - 0).toNat 0).toNat) _ _ _ _
      rw [hv]
      exact h _ _
    · have h := h5 hv
      show xGo xft xNf xmt xtr d 128 ((((13 : Nat) : Int) + (#[35, 48, 125, 64, 85] : Array Int).getD ((M 68 x1) - 0).toNat 0).toNat) _ _ _ _
      rw [hv]
      exact h _ _ _
theorem t_doesMatch_48 {e : yE} {d : Nat} {x2 x3 : Int} {M : xM} {Q : Int → xM → Prop} (hs : RSh e) (h :
    (rg x3) ∧ ((x3 < 0 → 
      (Q (1 : Int) M)) ∧ 
    (¬ (x3 < 0) → 
      ((0 ≤ x3 ∧ x3 < 16) ∧ 
      (∀ M1 : xM, M1 = xup M 82 x3 x2 → 
      (Q (1 : Int) M1)))))) : R_doesMatch_48 e d x2 x3 M Q := by
  intro o1 o4 o5
  refine xGo.in ?_
  refine And.intro (h.1) (And.intro (fun c => ?_) (fun c => ?_))
  · replace h := h.2.1 c
    exact And.intro (by decide) (yI_ret h)
  · replace h := h.2.2 c
    refine And.intro (rs_ob hs) ?_
    refine And.intro (xi_st (rs_23 hs) (h.1)) ?_
    replace h := h.2
    obtain ⟨M1, hM1⟩ : ∃ z : xM, z = xup M 82 x3 x2 := ⟨_, rfl⟩
    refine xgo_st (e := e) (M := M1) (by subst hM1; rfl) ?_
    replace h := h M1 hM1
    exact And.intro (by decide) (yI_ret h)
theorem t_doesMatch_61 {e : yE} {d : Nat} {x2 x3 : Int} {M : xM} {Q : Int → xM → Prop} (hs : RSh e) (h :
    (0 ≤ x2 ∧ x2 < 300) ∧ 
    ((rg (M 65 x2) ∧ rg x3) ∧ ((¬ (M 65 x2) = x3 → 
      (Q (0 : Int) M)) ∧ 
    (¬ (¬ (M 65 x2) = x3) → 
      (Q (1 : Int) M))))) : R_doesMatch_61 e d x2 x3 M Q := by
  intro o1 o4 o5
  refine xGo.in ?_
  refine And.intro (rs_ob hs) ?_
  refine And.intro (xi_ld (rs_6 hs) (h.1)) ?_
  replace h := h.2
  refine And.intro (⟨h.1.1, h.1.2⟩) (And.intro (fun c => ?_) (fun c => ?_))
  · replace h := h.2.1 c
    exact And.intro (by decide) (yI_ret h)
  · replace h := h.2.2 c
    exact And.intro (by decide) (yI_ret h)
theorem t_doesMatch_77 {e : yE} {d : Nat} {x1 x2 x3 : Int} {M : xM} {Q : Int → xM → Prop} (hs : RSh e) (h :
    (0 ≤ x3 ∧ x3 < 16) ∧ 
    (∀ M1 : xM, M1 = xup M 82 x3 x2 → 
    ((0 ≤ ((3 : Int) * x1) ∧ ((3 : Int) * x1) < 900) ∧ 
    (R_doesMatch e d (M1 71 ((3 : Int) * x1)) x2 M1 (fun y3 M2 => 
    (y3 = 0 ∨ y3 = 1) ∧ Q y3 M2))))) : R_doesMatch_77 e d x1 x2 x3 M Q := by
  intro o4 o5
  refine xGo.in ?_
  refine And.intro (rs_ob hs) ?_
  refine And.intro (xi_st (rs_23 hs) (h.1)) ?_
  replace h := h.2
  obtain ⟨M1, hM1⟩ : ∃ z : xM, z = xup M 82 x3 x2 := ⟨_, rfl⟩
  refine xgo_st (e := e) (M := M1) (by subst hM1; rfl) ?_
  replace h := h M1 hM1
  refine And.intro (rs_ob hs) ?_
  refine And.intro (xi_ld (rs_12 hs) (h.1)) ?_
  replace h := h.2
  refine And.intro ⟨Nat.le_of_ble_eq_true rfl, Nat.le_of_ble_eq_true rfl, rs_ob hs⟩ ?_
  refine yI_use h (fun y3 M2 h => ?_)
  exact And.intro h.1 (yI_ret h.2)
theorem t_doesMatch_98 {e : yE} {d : Nat} {x1 x2 : Int} {M : xM} {Q : Int → xM → Prop} (hs : RSh e) (h :
    (0 ≤ ((3 : Int) * x1) ∧ ((3 : Int) * x1) < 900) ∧ 
    (R_doesMatch e d (M 71 ((3 : Int) * x1)) x2 M (fun y2 M1 => 
    (rg y2) ∧ ((¬ y2 = 0 → 
      (Q (1 : Int) M1)) ∧ 
    (¬ (¬ y2 = 0) → 
      ((0 ≤ (((3 : Int) * x1) + (1 : Int)) ∧ (((3 : Int) * x1) + (1 : Int)) < 900) ∧ 
      (R_doesMatch e d (M1 71 (((3 : Int) * x1) + (1 : Int))) x2 M1 (fun y4 M3 => 
      (rg y4) ∧ ((y4 = 0 → 
        (Q (0 : Int) M3)) ∧ 
      (¬ (y4 = 0) → 
        (Q (1 : Int) M3))))))))))) : R_doesMatch_98 e d x1 x2 M Q := by
  intro o3 o4 o5
  refine xGo.in ?_
  refine And.intro (rs_ob hs) ?_
  refine And.intro (xi_ld (rs_12 hs) (h.1)) ?_
  replace h := h.2
  refine And.intro ⟨Nat.le_of_ble_eq_true rfl, Nat.le_of_ble_eq_true rfl, rs_ob hs⟩ ?_
  refine yI_use h (fun y2 M1 h => ?_)
  refine And.intro (h.1) (And.intro (fun c => ?_) (fun c => ?_))
  · replace h := h.2.1 c
    exact And.intro (by decide) (yI_ret h)
  · replace h := h.2.2 c
    refine And.intro (rs_ob hs) ?_
    refine And.intro (xi_ld (rs_12 hs) (h.1)) ?_
    replace h := h.2
    refine And.intro ⟨Nat.le_of_ble_eq_true rfl, Nat.le_of_ble_eq_true rfl, rs_ob hs⟩ ?_
    refine yI_use h (fun y4 M3 h => ?_)
    refine And.intro (h.1) (And.intro (fun c => ?_) (fun c => ?_))
    · replace h := h.2.1 c
      exact And.intro (by decide) (yI_ret h)
    · replace h := h.2.2 c
      exact And.intro (by decide) (yI_ret h)
theorem t_doesMatch_138 {e : yE} {d : Nat} {x1 x2 x3 : Int} {M : xM} {Q : Int → xM → Prop} (hs : RSh e) (h :
    (0 ≤ x2 ∧ x2 < 300) ∧ 
    ((rg (M 65 x2) ∧ rg x3) ∧ ((¬ (M 65 x2) = x3 → 
      (R_doesMatch_158 e d x1 x2 x3 (0 : Int) (0 : Int) M Q)) ∧ 
    (¬ (¬ (M 65 x2) = x3) → 
      (R_doesMatch_158 e d x1 x2 x3 (1 : Int) (0 : Int) M Q))))) : R_doesMatch_138 e d x1 x2 x3 M Q := by
  intro o4 o5
  refine xGo.in ?_
  refine And.intro (rs_ob hs) ?_
  refine And.intro (xi_ld (rs_6 hs) (h.1)) ?_
  replace h := h.2
  refine And.intro (⟨h.1.1, h.1.2⟩) (And.intro (fun c => ?_) (fun c => ?_))
  · replace h := h.2.1 c
    exact h
  · replace h := h.2.2 c
    exact h
theorem t_doesMatch_158 {e : yE} {d : Nat} {x1 x2 x3 x4 x5 : Int} {M : xM} {Q : Int → xM → Prop} (hs : RSh e) (h :
    (rg x4) ∧ ((x4 = 0 → 
      ((x4 = 0 ∨ x4 = 1) ∧ Q x4 M)) ∧ 
    (¬ (x4 = 0) → 
      ((0 ≤ x1 ∧ x1 < 300) ∧ 
      (R_countOf e d (M 69 x1) x3 M (fun y2 M1 => 
      (rg x5 ∧ rg y2) ∧ ((y2 ≤ x5 → 
        ((x4 = 0 ∨ x4 = 1) ∧ Q x4 M1)) ∧ 
      (¬ (y2 ≤ x5) → 
        ((0 ≤ (((3 : Int) * x1) + x5) ∧ (((3 : Int) * x1) + x5) < 900) ∧ 
        ((0 ≤ (((3 : Int) * x2) + x5) ∧ (((3 : Int) * x2) + x5) < 900) ∧ 
        (R_doesMatch e d (M1 71 (((3 : Int) * x1) + x5)) (M1 66 (((3 : Int) * x2) + x5)) M1 (fun y4 M3 => 
        R_doesMatch_158 e d x1 x2 x3 y4 (x5 + 1) M3 Q)))))))))))) : R_doesMatch_158 e d x1 x2 x3 x4 x5 M Q := by
  refine xGo.in ?_
  refine And.intro (h.1) (And.intro (fun c => ?_) (fun c => ?_))
  · replace h := h.2.1 c
    exact And.intro h.1 (yI_ret h.2)
  · replace h := h.2.2 c
    refine And.intro (rs_ob hs) ?_
    refine And.intro (xi_ld (rs_10 hs) (h.1)) ?_
    replace h := h.2
    refine And.intro ⟨Nat.le_of_ble_eq_true rfl, Nat.le_of_ble_eq_true rfl, rs_ob hs⟩ ?_
    refine yI_use h (fun y2 M1 h => ?_)
    refine And.intro (⟨h.1.1, h.1.2⟩) (And.intro (fun c => ?_) (fun c => ?_))
    · replace h := h.2.1 c
      exact And.intro h.1 (yI_ret h.2)
    · replace h := h.2.2 c
      refine And.intro (rs_ob hs) ?_
      refine And.intro (xi_ld (rs_12 hs) (h.1)) ?_
      replace h := h.2
      refine And.intro (rs_ob hs) ?_
      refine And.intro (xi_ld (rs_7 hs) (h.1)) ?_
      replace h := h.2
      refine And.intro ⟨Nat.le_of_ble_eq_true rfl, Nat.le_of_ble_eq_true rfl, rs_ob hs⟩ ?_
      refine yI_use h (fun y4 M3 h => ?_)
      exact h
theorem t_doesMatch {e : yE} {d : Nat} {x1 : Int} {x2 : Int} {M : xM} {Q : Int → xM → Prop} (h : R_doesMatch_0 e d x1 x2 M Q) : R_doesMatch e (d + 1) x1 x2 M Q := h _ _ _
def R_takes_0 (e : yE) (d : Nat) (x1 x2 x3 x4 x5 : Int) (M : xM) (Q : Int → xM → Prop) : Prop := ∀ (o6 : Option xV), xGo xft xNf xmt xtr d 129 0 [some (.inr (some 59)), some (.inl x1), some (.inl x2), some (.inl x3), some (.inl x4), some (.inl x5), o6] [] (yS e M) (yI e Q)
def R_takes_3 (e : yE) (d : Nat) (x1 x2 x3 x4 x5 x6 : Int) (M : xM) (Q : Int → xM → Prop) : Prop := xGo xft xNf xmt xtr d 129 3 [some (.inr (some 59)), some (.inl x1), some (.inl x2), some (.inl x3), some (.inl x4), some (.inl x5), some (.inl x6)] [] (yS e M) (yI e Q)
def R_takes_27 (e : yE) (d : Nat) (x1 x2 x3 x4 x5 x6 : Int) (M : xM) (Q : Int → xM → Prop) : Prop := xGo xft xNf xmt xtr d 129 27 [some (.inr (some 59)), some (.inl x1), some (.inl x2), some (.inl x3), some (.inl x4), some (.inl x5), some (.inl x6)] [] (yS e M) (yI e Q)
theorem t_takes_0 {e : yE} {d : Nat} {x1 x2 x3 x4 x5 : Int} {M : xM} {Q : Int → xM → Prop} (hs : RSh e) (h :
    R_takes_3 e d x1 x2 x3 x4 x5 (0 : Int) M Q) : R_takes_0 e d x1 x2 x3 x4 x5 M Q := by
  intro o6
  refine xGo.in ?_
  exact h
theorem t_takes_3 {e : yE} {d : Nat} {x1 x2 x3 x4 x5 x6 : Int} {M : xM} {Q : Int → xM → Prop} (hs : RSh e) (h :
    (rg x6) ∧ (((16 : Int) ≤ x6 → 
      (R_takes_27 e d x1 x2 x3 x4 x5 (0 : Int) M Q)) ∧ 
    (¬ ((16 : Int) ≤ x6) → 
      ((0 ≤ x6 ∧ x6 < 16) ∧ 
      (∀ M1 : xM, M1 = xup M 82 x6 (-1 : Int) → 
      (R_takes_3 e d x1 x2 x3 x4 x5 (x6 + 1) M1 Q)))))) : R_takes_3 e d x1 x2 x3 x4 x5 x6 M Q := by
  refine xGo.in ?_
  refine And.intro (⟨h.1, rg_lit (by decide)⟩) (And.intro (fun c => ?_) (fun c => ?_))
  · replace h := h.2.1 c
    exact h
  · replace h := h.2.2 c
    refine And.intro (rs_ob hs) ?_
    refine And.intro (xi_st (rs_23 hs) (h.1)) ?_
    replace h := h.2
    obtain ⟨M1, hM1⟩ : ∃ z : xM, z = xup M 82 x6 (-1 : Int) := ⟨_, rfl⟩
    refine xgo_st (e := e) (M := M1) (by subst hM1; rfl) ?_
    replace h := h M1 hM1
    exact h
theorem t_takes_27 {e : yE} {d : Nat} {x1 x2 x3 x4 x5 x6 : Int} {M : xM} {Q : Int → xM → Prop} (hs : RSh e) (h :
    (0 ≤ x1 ∧ x1 < 20) ∧ 
    ((rg x6 ∧ rg (M 75 x1)) ∧ (((M 75 x1) ≤ x6 → 
      ((0 ≤ (((12 : Int) * x1) + x2) ∧ (((12 : Int) * x1) + x2) < 240) ∧ 
      ((rg (M 79 (((12 : Int) * x1) + x2))) ∧ (((M 79 (((12 : Int) * x1) + x2)) < 0 → 
        (Q (1 : Int) M)) ∧ 
      (¬ ((M 79 (((12 : Int) * x1) + x2)) < 0) → 
        ((0 ≤ (M 79 (((12 : Int) * x1) + x2)) ∧ (M 79 (((12 : Int) * x1) + x2)) < 16) ∧ 
        ((0 ≤ (M 82 (M 79 (((12 : Int) * x1) + x2))) ∧ (M 82 (M 79 (((12 : Int) * x1) + x2))) < 300) ∧ 
        ((0 ≤ (((12 : Int) * x1) + x2) ∧ (((12 : Int) * x1) + x2) < 240) ∧ 
        ((0 ≤ (M 80 (((12 : Int) * x1) + x2)) ∧ (M 80 (((12 : Int) * x1) + x2)) < 16) ∧ 
        ((0 ≤ (M 82 (M 80 (((12 : Int) * x1) + x2))) ∧ (M 82 (M 80 (((12 : Int) * x1) + x2))) < 300) ∧ 
        ((rg (M 65 (M 82 (M 79 (((12 : Int) * x1) + x2)))) ∧ rg (M 65 (M 82 (M 80 (((12 : Int) * x1) + x2))))) ∧ (((M 65 (M 82 (M 80 (((12 : Int) * x1) + x2)))) ≤ (M 65 (M 82 (M 79 (((12 : Int) * x1) + x2)))) → 
          (Q (0 : Int) M)) ∧ 
        (¬ ((M 65 (M 82 (M 80 (((12 : Int) * x1) + x2)))) ≤ (M 65 (M 82 (M 79 (((12 : Int) * x1) + x2))))) → 
          (Q (1 : Int) M)))))))))))))) ∧ 
    (¬ ((M 75 x1) ≤ x6) → 
      (R_patternOf e d x1 x2 x6 M (fun y2 M1 => 
      R_pick e d x6 x3 x4 x5 M1 (fun y4 M3 => 
      R_doesMatch e d y2 y4 M3 (fun y6 M5 => 
      (rg y6) ∧ ((¬ y6 = 0 → 
        (R_takes_27 e d x1 x2 x3 x4 x5 (x6 + 1) M5 Q)) ∧ 
      (¬ (¬ y6 = 0) → 
        (Q (0 : Int) M5))))))))))) : R_takes_27 e d x1 x2 x3 x4 x5 x6 M Q := by
  refine xGo.in ?_
  refine And.intro (rs_ob hs) ?_
  refine And.intro (xi_ld (rs_16 hs) (h.1)) ?_
  replace h := h.2
  refine And.intro (⟨h.1.1, h.1.2⟩) (And.intro (fun c => ?_) (fun c => ?_))
  · replace h := h.2.1 c
    refine And.intro (rs_ob hs) ?_
    refine And.intro (xi_ld (rs_20 hs) (h.1)) ?_
    replace h := h.2
    refine And.intro (h.1) (And.intro (fun c => ?_) (fun c => ?_))
    · replace h := h.2.1 c
      exact And.intro (by decide) (yI_ret h)
    · replace h := h.2.2 c
      refine And.intro (rs_ob hs) ?_
      refine And.intro (rs_ob hs) ?_
      refine And.intro (xi_ld (rs_23 hs) (h.1)) ?_
      replace h := h.2
      refine And.intro (xi_ld (rs_6 hs) (h.1)) ?_
      replace h := h.2
      refine And.intro (rs_ob hs) ?_
      refine And.intro (rs_ob hs) ?_
      refine And.intro (rs_ob hs) ?_
      refine And.intro (xi_ld (rs_21 hs) (h.1)) ?_
      replace h := h.2
      refine And.intro (xi_ld (rs_23 hs) (h.1)) ?_
      replace h := h.2
      refine And.intro (xi_ld (rs_6 hs) (h.1)) ?_
      replace h := h.2
      refine And.intro (⟨h.1.1, h.1.2⟩) (And.intro (fun c => ?_) (fun c => ?_))
      · replace h := h.2.1 c
        exact And.intro (by decide) (yI_ret h)
      · replace h := h.2.2 c
        exact And.intro (by decide) (yI_ret h)
  · replace h := h.2.2 c
    refine And.intro ⟨Nat.le_of_ble_eq_true rfl, Nat.le_of_ble_eq_true rfl, rs_ob hs⟩ ?_
    refine yI_use h (fun y2 M1 h => ?_)
    refine And.intro ⟨Nat.le_of_ble_eq_true rfl, Nat.le_of_ble_eq_true rfl, trivial⟩ ?_
    refine yI_use h (fun y4 M3 h => ?_)
    refine And.intro ⟨Nat.le_of_ble_eq_true rfl, Nat.le_of_ble_eq_true rfl, rs_ob hs⟩ ?_
    refine yI_use h (fun y6 M5 h => ?_)
    refine And.intro (h.1) (And.intro (fun c => ?_) (fun c => ?_))
    · replace h := h.2.1 c
      exact h
    · replace h := h.2.2 c
      exact And.intro (by decide) (yI_ret h)
theorem t_takes {e : yE} {d : Nat} {x1 : Int} {x2 : Int} {x3 : Int} {x4 : Int} {x5 : Int} {M : xM} {Q : Int → xM → Prop} (h : R_takes_0 e d x1 x2 x3 x4 x5 M Q) : R_takes e (d + 1) x1 x2 x3 x4 x5 M Q := h _
def R_newPlace_0 (e : yE) (d : Nat) (x1 x2 : Int) (M : xM) (Q : Int → xM → Prop) : Prop := xGo xft xNf xmt xtr d 130 0 [some (.inr (some 59)), some (.inl x1), some (.inl x2)] [] (yS e M) (yI e Q)
theorem t_newPlace_0 {e : yE} {d : Nat} {x1 x2 : Int} {M : xM} {Q : Int → xM → Prop} (hs : RSh e) (h :
    (0 ≤ (M 59 42) ∧ (M 59 42) < 1000) ∧ 
    (∀ M1 : xM, M1 = xup M 88 (M 59 42) x1 → 
    ((0 ≤ (M1 59 42) ∧ (M1 59 42) < 1000) ∧ 
    (∀ M2 : xM, M2 = xup M1 89 (M1 59 42) (0 : Int) → 
    ((0 ≤ (M2 59 42) ∧ (M2 59 42) < 1000) ∧ 
    (∀ M3 : xM, M3 = xup M2 93 (M2 59 42) x2 → 
    (∀ M4 : xM, M4 = xup M3 59 42 ((M3 59 42) + (1 : Int)) → 
    (Q ((M4 59 42) - (1 : Int)) M4)))))))) : R_newPlace_0 e d x1 x2 M Q := by
  refine xGo.in ?_
  refine And.intro (rs_ob hs) ?_
  refine And.intro (rs_ob hs) ?_
  refine And.intro (xi_st (rs_29 hs) (h.1)) ?_
  replace h := h.2
  obtain ⟨M1, hM1⟩ : ∃ z : xM, z = xup M 88 (M 59 42) x1 := ⟨_, rfl⟩
  refine xgo_st (e := e) (M := M1) (by subst hM1; rfl) ?_
  replace h := h M1 hM1
  refine And.intro (rs_ob hs) ?_
  refine And.intro (rs_ob hs) ?_
  refine And.intro (xi_stv (rs_30 hs) (h.1) (by decide)) ?_
  replace h := h.2
  obtain ⟨M2, hM2⟩ : ∃ z : xM, z = xup M1 89 (M1 59 42) (0 : Int) := ⟨_, rfl⟩
  refine xgo_st (e := e) (M := M2) (by subst hM2; rfl) ?_
  replace h := h M2 hM2
  refine And.intro (rs_ob hs) ?_
  refine And.intro (rs_ob hs) ?_
  refine And.intro (xi_st (rs_34 hs) (h.1)) ?_
  replace h := h.2
  obtain ⟨M3, hM3⟩ : ∃ z : xM, z = xup M2 93 (M2 59 42) x2 := ⟨_, rfl⟩
  refine xgo_st (e := e) (M := M3) (by subst hM3; rfl) ?_
  replace h := h M3 hM3
  refine And.intro (rs_ob hs) ?_
  refine And.intro (rs_ob hs) ?_
  obtain ⟨M4, hM4⟩ : ∃ z : xM, z = xup M3 59 42 ((M3 59 42) + (1 : Int)) := ⟨_, rfl⟩
  refine xgo_st (e := e) (M := M4) (by subst hM4; rfl) ?_
  replace h := h M4 hM4
  refine And.intro (rs_ob hs) ?_
  exact yI_ret h
theorem t_newPlace {e : yE} {d : Nat} {x1 : Int} {x2 : Int} {M : xM} {Q : Int → xM → Prop} (h : R_newPlace_0 e d x1 x2 M Q) : R_newPlace e (d + 1) x1 x2 M Q := h
def R_pushRow_0 (e : yE) (d : Nat) (x1 x2 : Int) (M : xM) (Q : Int → xM → Prop) : Prop := xGo xft xNf xmt xtr d 131 0 [some (.inr (some 59)), some (.inl x1), some (.inl x2)] [] (yS e M) (yI e Q)
theorem t_pushRow_0 {e : yE} {d : Nat} {x1 x2 : Int} {M : xM} {Q : Int → xM → Prop} (hs : RSh e) (h :
    (0 ≤ (M 59 31) ∧ (M 59 31) < 8000) ∧ 
    (∀ M1 : xM, M1 = xup M 83 (M 59 31) x1 → 
    ((0 ≤ (M1 59 31) ∧ (M1 59 31) < 8000) ∧ 
    (∀ M2 : xM, M2 = xup M1 84 (M1 59 31) (M1 59 33) → 
    (∀ M3 : xM, M3 = xup M2 59 33 ((M2 59 33) + x2) → 
    (∀ M4 : xM, M4 = xup M3 59 31 ((M3 59 31) + (1 : Int)) → 
    (Q ((M4 59 31) - (1 : Int)) M4))))))) : R_pushRow_0 e d x1 x2 M Q := by
  refine xGo.in ?_
  refine And.intro (rs_ob hs) ?_
  refine And.intro (rs_ob hs) ?_
  refine And.intro (xi_st (rs_24 hs) (h.1)) ?_
  replace h := h.2
  obtain ⟨M1, hM1⟩ : ∃ z : xM, z = xup M 83 (M 59 31) x1 := ⟨_, rfl⟩
  refine xgo_st (e := e) (M := M1) (by subst hM1; rfl) ?_
  replace h := h M1 hM1
  refine And.intro (rs_ob hs) ?_
  refine And.intro (rs_ob hs) ?_
  refine And.intro (rs_ob hs) ?_
  refine And.intro (xi_st (rs_25 hs) (h.1)) ?_
  replace h := h.2
  obtain ⟨M2, hM2⟩ : ∃ z : xM, z = xup M1 84 (M1 59 31) (M1 59 33) := ⟨_, rfl⟩
  refine xgo_st (e := e) (M := M2) (by subst hM2; rfl) ?_
  replace h := h M2 hM2
  refine And.intro (rs_ob hs) ?_
  refine And.intro (rs_ob hs) ?_
  obtain ⟨M3, hM3⟩ : ∃ z : xM, z = xup M2 59 33 ((M2 59 33) + x2) := ⟨_, rfl⟩
  refine xgo_st (e := e) (M := M3) (by subst hM3; rfl) ?_
  replace h := h M3 hM3
  refine And.intro (rs_ob hs) ?_
  refine And.intro (rs_ob hs) ?_
  obtain ⟨M4, hM4⟩ : ∃ z : xM, z = xup M3 59 31 ((M3 59 31) + (1 : Int)) := ⟨_, rfl⟩
  refine xgo_st (e := e) (M := M4) (by subst hM4; rfl) ?_
  replace h := h M4 hM4
  refine And.intro (rs_ob hs) ?_
  exact yI_ret h
theorem t_pushRow {e : yE} {d : Nat} {x1 : Int} {x2 : Int} {M : xM} {Q : Int → xM → Prop} (h : R_pushRow_0 e d x1 x2 M Q) : R_pushRow e (d + 1) x1 x2 M Q := h
def R_cell_0 (e : yE) (d : Nat) (x1 x2 : Int) (M : xM) (Q : Int → xM → Prop) : Prop := xGo xft xNf xmt xtr d 132 0 [some (.inr (some 59)), some (.inl x1), some (.inl x2)] [] (yS e M) (yI e Q)
theorem t_cell_0 {e : yE} {d : Nat} {x1 x2 : Int} {M : xM} {Q : Int → xM → Prop} (hs : RSh e) (h :
    (0 ≤ x1 ∧ x1 < 8000) ∧ 
    ((0 ≤ ((M 84 x1) + x2) ∧ ((M 84 x1) + x2) < 2300000) ∧ 
    (Q (M 86 ((M 84 x1) + x2)) M))) : R_cell_0 e d x1 x2 M Q := by
  refine xGo.in ?_
  refine And.intro (rs_ob hs) ?_
  refine And.intro (rs_ob hs) ?_
  refine And.intro (xi_ld (rs_25 hs) (h.1)) ?_
  replace h := h.2
  refine And.intro (xi_ldb (rs_27 hs) (h.1)) ?_
  replace h := h.2
  exact yI_ret h
theorem t_cell {e : yE} {d : Nat} {x1 : Int} {x2 : Int} {M : xM} {Q : Int → xM → Prop} (h : R_cell_0 e d x1 x2 M Q) : R_cell e (d + 1) x1 x2 M Q := h
def R_setCell_0 (e : yE) (d : Nat) (x1 x2 x3 x4 : Int) (M : xM) (Q : xM → Prop) : Prop := ∀ (o5 : Option xV), xGo xft xNf xmt xtr d 133 0 [some (.inr (some 59)), some (.inl x1), some (.inl x2), some (.inl x3), some (.inl x4), o5] [] (yS e M) (yV e Q)
def R_setCell_3 (e : yE) (d : Nat) (x1 x2 x4 x5 : Int) (M : xM) (Q : xM → Prop) : Prop := ∀ (o3 : Option xV), xGo xft xNf xmt xtr d 133 3 [some (.inr (some 59)), some (.inl x1), some (.inl x2), o3, some (.inl x4), some (.inl x5)] [] (yS e M) (yV e Q)
def R_setCell_29 (e : yE) (d : Nat) (x1 x2 x4 x5 : Int) (M : xM) (Q : xM → Prop) : Prop := ∀ (o3 : Option xV), xGo xft xNf xmt xtr d 133 29 [some (.inr (some 59)), some (.inl x1), some (.inl x2), o3, some (.inl x4), some (.inl x5)] [] (yS e M) (yV e Q)
def R_setCell_58 (e : yE) (d : Nat) (x1 x2 x4 x5 : Int) (M : xM) (Q : xM → Prop) : Prop := ∀ (o3 : Option xV), xGo xft xNf xmt xtr d 133 58 [some (.inr (some 59)), some (.inl x1), some (.inl x2), o3, some (.inl x4), some (.inl x5)] [] (yS e M) (yV e Q)
def R_setCell_87 (e : yE) (d : Nat) (x1 x2 x5 : Int) (M : xM) (Q : xM → Prop) : Prop := ∀ (o3 o4 : Option xV), xGo xft xNf xmt xtr d 133 87 [some (.inr (some 59)), some (.inl x1), some (.inl x2), o3, o4, some (.inl x5)] [] (yS e M) (yV e Q)
theorem t_setCell_0 {e : yE} {d : Nat} {x1 x2 x3 x4 : Int} {M : xM} {Q : xM → Prop} (hs : RSh e) (h :
    R_setCell_3 e d x1 x2 x4 x3 M Q) : R_setCell_0 e d x1 x2 x3 x4 M Q := by
  intro o5
  refine xGo.in ?_
  exact h _
theorem t_setCell_3 {e : yE} {d : Nat} {x1 x2 x4 x5 : Int} {M : xM} {Q : xM → Prop} (hs : RSh e) (h :
    (rg x5) ∧ ((x5 < 0 → 
      (R_setCell_87 e d x1 x2 x5 M Q)) ∧ 
    (¬ (x5 < 0) → 
      ((0 ≤ x5 ∧ x5 < 300) ∧ 
      ((rg (M 68 x5)) ∧ (((M 68 x5) = (3 : Int) → 
        (R_setCell_29 e d x1 x2 x4 x5 M Q)) ∧ 
      (¬ ((M 68 x5) = (3 : Int)) → 
        ((0 ≤ x5 ∧ x5 < 300) ∧ 
        ((rg (M 68 x5)) ∧ ((¬ (M 68 x5) = 0 → 
          (R_setCell_87 e d x1 x2 x5 M Q)) ∧ 
        (¬ (¬ (M 68 x5) = 0) → 
          (R_setCell_29 e d x1 x2 x4 x5 M Q)))))))))))) : R_setCell_3 e d x1 x2 x4 x5 M Q := by
  intro o3
  refine xGo.in ?_
  refine And.intro (h.1) (And.intro (fun c => ?_) (fun c => ?_))
  · replace h := h.2.1 c
    exact h _ _
  · replace h := h.2.2 c
    refine And.intro (rs_ob hs) ?_
    refine And.intro (xi_ld (rs_9 hs) (h.1)) ?_
    replace h := h.2
    refine And.intro (⟨h.1, rg_lit (by decide)⟩) (And.intro (fun c => ?_) (fun c => ?_))
    · replace h := h.2.1 c
      exact h _
    · replace h := h.2.2 c
      refine And.intro (rs_ob hs) ?_
      refine And.intro (xi_ld (rs_9 hs) (h.1)) ?_
      replace h := h.2
      refine And.intro (h.1) (And.intro (fun c => ?_) (fun c => ?_))
      · replace h := h.2.1 c
        exact h _ _
      · replace h := h.2.2 c
        exact h _
theorem t_setCell_29 {e : yE} {d : Nat} {x1 x2 x4 x5 : Int} {M : xM} {Q : xM → Prop} (hs : RSh e) (h :
    (0 ≤ x5 ∧ x5 < 300) ∧ 
    ((rg (M 70 x5)) ∧ (((M 70 x5) < 0 → 
      (R_setCell_58 e d x1 x2 x4 x5 M Q)) ∧ 
    (¬ ((M 70 x5) < 0) → 
      ((0 ≤ x5 ∧ x5 < 300) ∧ 
      ((0 ≤ (((16 : Int) * x1) + (M 70 x5)) ∧ (((16 : Int) * x1) + (M 70 x5)) < 128000) ∧ 
      (∀ M1 : xM, M1 = xup M 85 (((16 : Int) * x1) + (M 70 x5)) x4 → 
      (R_setCell_58 e d x1 x2 x4 x5 M1 Q)))))))) : R_setCell_29 e d x1 x2 x4 x5 M Q := by
  intro o3
  refine xGo.in ?_
  refine And.intro (rs_ob hs) ?_
  refine And.intro (xi_ld (rs_11 hs) (h.1)) ?_
  replace h := h.2
  refine And.intro (h.1) (And.intro (fun c => ?_) (fun c => ?_))
  · replace h := h.2.1 c
    exact h _
  · replace h := h.2.2 c
    refine And.intro (rs_ob hs) ?_
    refine And.intro (rs_ob hs) ?_
    refine And.intro (xi_ld (rs_11 hs) (h.1)) ?_
    replace h := h.2
    refine And.intro (xi_st (rs_26 hs) (h.1)) ?_
    replace h := h.2
    obtain ⟨M1, hM1⟩ : ∃ z : xM, z = xup M 85 (((16 : Int) * x1) + (M 70 x5)) x4 := ⟨_, rfl⟩
    refine xgo_st (e := e) (M := M1) (by subst hM1; rfl) ?_
    replace h := h M1 hM1
    exact h _
theorem t_setCell_58 {e : yE} {d : Nat} {x1 x2 x4 x5 : Int} {M : xM} {Q : xM → Prop} (hs : RSh e) (h :
    (0 ≤ x5 ∧ x5 < 300) ∧ 
    ((rg (M 68 x5)) ∧ ((¬ (M 68 x5) = (3 : Int) → 
      (R_setCell_3 e d x1 x2 x4 (-1 : Int) M Q)) ∧ 
    (¬ (¬ (M 68 x5) = (3 : Int)) → 
      ((0 ≤ ((3 : Int) * x5) ∧ ((3 : Int) * x5) < 900) ∧ 
      (R_setCell_3 e d x1 x2 x4 (M 71 ((3 : Int) * x5)) M Q)))))) : R_setCell_58 e d x1 x2 x4 x5 M Q := by
  intro o3
  refine xGo.in ?_
  refine And.intro (rs_ob hs) ?_
  refine And.intro (xi_ld (rs_9 hs) (h.1)) ?_
  replace h := h.2
  refine And.intro (⟨h.1, rg_lit (by decide)⟩) (And.intro (fun c => ?_) (fun c => ?_))
  · replace h := h.2.1 c
    exact h _
  · replace h := h.2.2 c
    refine And.intro (rs_ob hs) ?_
    refine And.intro (xi_ld (rs_12 hs) (h.1)) ?_
    replace h := h.2
    exact h _
theorem t_setCell_87 {e : yE} {d : Nat} {x1 x2 x5 : Int} {M : xM} {Q : xM → Prop} (hs : RSh e) (h :
    (0 ≤ x1 ∧ x1 < 8000) ∧ 
    (((0 ≤ ((M 84 x1) + x2) ∧ ((M 84 x1) + x2) < 2300000) ∧ (-32768 ≤ (xi2s x5) ∧ (xi2s x5) ≤ 32767)) ∧ 
    (∀ M1 : xM, M1 = xup M 86 ((M 84 x1) + x2) (xi2s x5) → 
    (Q M1)))) : R_setCell_87 e d x1 x2 x5 M Q := by
  intro o3 o4
  refine xGo.in ?_
  refine And.intro (rs_ob hs) ?_
  refine And.intro (rs_ob hs) ?_
  refine And.intro (xi_ld (rs_25 hs) (h.1)) ?_
  replace h := h.2
  refine And.intro (xi_stv (rs_27 hs) (h.1.1) (h.1.2)) ?_
  replace h := h.2
  obtain ⟨M1, hM1⟩ : ∃ z : xM, z = xup M 86 ((M 84 x1) + x2) (xi2s x5) := ⟨_, rfl⟩
  refine xgo_st (e := e) (M := M1) (by subst hM1; rfl) ?_
  replace h := h M1 hM1
  exact yV_ret (r := .inl 0) h
theorem t_setCell {e : yE} {d : Nat} {x1 : Int} {x2 : Int} {x3 : Int} {x4 : Int} {M : xM} {Q : xM → Prop} (h : R_setCell_0 e d x1 x2 x3 x4 M Q) : R_setCell e (d + 1) x1 x2 x3 x4 M Q := h _
def R_copyRow_0 (e : yE) (d : Nat) (x1 x2 x3 : Int) (M : xM) (Q : xM → Prop) : Prop := ∀ (o4 : Option xV), xGo xft xNf xmt xtr d 134 0 [some (.inr (some 59)), some (.inl x1), some (.inl x2), some (.inl x3), o4] [] (yS e M) (yV e Q)
def R_copyRow_3 (e : yE) (d : Nat) (x1 x2 x3 x4 : Int) (M : xM) (Q : xM → Prop) : Prop := xGo xft xNf xmt xtr d 134 3 [some (.inr (some 59)), some (.inl x1), some (.inl x2), some (.inl x3), some (.inl x4)] [] (yS e M) (yV e Q)
def R_copyRow_43 (e : yE) (d : Nat) (x1 x2 x3 x4 : Int) (M : xM) (Q : xM → Prop) : Prop := xGo xft xNf xmt xtr d 134 43 [some (.inr (some 59)), some (.inl x1), some (.inl x2), some (.inl x3), some (.inl x4)] [] (yS e M) (yV e Q)
theorem t_copyRow_0 {e : yE} {d : Nat} {x1 x2 x3 : Int} {M : xM} {Q : xM → Prop} (hs : RSh e) (h :
    R_copyRow_3 e d x1 x2 x3 (0 : Int) M Q) : R_copyRow_0 e d x1 x2 x3 M Q := by
  intro o4
  refine xGo.in ?_
  exact h
theorem t_copyRow_3 {e : yE} {d : Nat} {x1 x2 x3 x4 : Int} {M : xM} {Q : xM → Prop} (hs : RSh e) (h :
    (rg x4) ∧ (((16 : Int) ≤ x4 → 
      (R_copyRow_43 e d x1 x2 x3 (0 : Int) M Q)) ∧ 
    (¬ ((16 : Int) ≤ x4) → 
      ((0 ≤ (((16 : Int) * x1) + x4) ∧ (((16 : Int) * x1) + x4) < 128000) ∧ 
      ((0 ≤ (((16 : Int) * x2) + x4) ∧ (((16 : Int) * x2) + x4) < 128000) ∧ 
      (∀ M1 : xM, M1 = xup M 85 (((16 : Int) * x2) + x4) (M 85 (((16 : Int) * x1) + x4)) → 
      (R_copyRow_3 e d x1 x2 x3 (x4 + 1) M1 Q))))))) : R_copyRow_3 e d x1 x2 x3 x4 M Q := by
  refine xGo.in ?_
  refine And.intro (⟨h.1, rg_lit (by decide)⟩) (And.intro (fun c => ?_) (fun c => ?_))
  · replace h := h.2.1 c
    exact h
  · replace h := h.2.2 c
    refine And.intro (rs_ob hs) ?_
    refine And.intro (rs_ob hs) ?_
    refine And.intro (xi_ld (rs_26 hs) (h.1)) ?_
    replace h := h.2
    refine And.intro (xi_st (rs_26 hs) (h.1)) ?_
    replace h := h.2
    obtain ⟨M1, hM1⟩ : ∃ z : xM, z = xup M 85 (((16 : Int) * x2) + x4) (M 85 (((16 : Int) * x1) + x4)) := ⟨_, rfl⟩
    refine xgo_st (e := e) (M := M1) (by subst hM1; rfl) ?_
    replace h := h M1 hM1
    exact h
theorem t_copyRow_43 {e : yE} {d : Nat} {x1 x2 x3 x4 : Int} {M : xM} {Q : xM → Prop} (hs : RSh e) (h :
    (rg x4 ∧ rg x3) ∧ ((x3 ≤ x4 → 
      (Q M)) ∧ 
    (¬ (x3 ≤ x4) → 
      ((0 ≤ x2 ∧ x2 < 8000) ∧ 
      ((0 ≤ x1 ∧ x1 < 8000) ∧ 
      ((0 ≤ ((M 84 x1) + x4) ∧ ((M 84 x1) + x4) < 2300000) ∧ 
      (((0 ≤ ((M 84 x2) + x4) ∧ ((M 84 x2) + x4) < 2300000) ∧ (-32768 ≤ (M 86 ((M 84 x1) + x4)) ∧ (M 86 ((M 84 x1) + x4)) ≤ 32767)) ∧ 
      (∀ M1 : xM, M1 = xup M 86 ((M 84 x2) + x4) (M 86 ((M 84 x1) + x4)) → 
      (R_copyRow_43 e d x1 x2 x3 (x4 + 1) M1 Q))))))))) : R_copyRow_43 e d x1 x2 x3 x4 M Q := by
  refine xGo.in ?_
  refine And.intro (⟨h.1.1, h.1.2⟩) (And.intro (fun c => ?_) (fun c => ?_))
  · replace h := h.2.1 c
    exact yV_ret (r := .inl 0) h
  · replace h := h.2.2 c
    refine And.intro (rs_ob hs) ?_
    refine And.intro (rs_ob hs) ?_
    refine And.intro (xi_ld (rs_25 hs) (h.1)) ?_
    replace h := h.2
    refine And.intro (rs_ob hs) ?_
    refine And.intro (rs_ob hs) ?_
    refine And.intro (xi_ld (rs_25 hs) (h.1)) ?_
    replace h := h.2
    refine And.intro (xi_ldb (rs_27 hs) (h.1)) ?_
    replace h := h.2
    refine And.intro (xi_stv (rs_27 hs) (h.1.1) (h.1.2)) ?_
    replace h := h.2
    obtain ⟨M1, hM1⟩ : ∃ z : xM, z = xup M 86 ((M 84 x2) + x4) (M 86 ((M 84 x1) + x4)) := ⟨_, rfl⟩
    refine xgo_st (e := e) (M := M1) (by subst hM1; rfl) ?_
    replace h := h M1 hM1
    exact h
theorem t_copyRow {e : yE} {d : Nat} {x1 : Int} {x2 : Int} {x3 : Int} {M : xM} {Q : xM → Prop} (h : R_copyRow_0 e d x1 x2 x3 M Q) : R_copyRow e (d + 1) x1 x2 x3 M Q := h _
def R_goThrough_0 (e : yE) (d : Nat) (x1 x2 x3 x4 x5 : Int) (M : xM) (Q : xM → Prop) : Prop := ∀ (o6 o7 o8 : Option xV), xGo xft xNf xmt xtr d 135 0 [some (.inr (some 59)), some (.inl x1), some (.inl x2), some (.inl x3), some (.inl x4), some (.inl x5), o6, o7, o8] [] (yS e M) (yV e Q)
def R_goThrough_28 (e : yE) (d : Nat) (x1 x3 x4 x5 x6 : Int) (M : xM) (Q : xM → Prop) : Prop := ∀ (o2 o7 o8 : Option xV), xGo xft xNf xmt xtr d 135 28 [some (.inr (some 59)), some (.inl x1), o2, some (.inl x3), some (.inl x4), some (.inl x5), some (.inl x6), o7, o8] [] (yS e M) (yV e Q)
def R_goThrough_76 (e : yE) (d : Nat) (x1 x3 x4 x5 x6 : Int) (M : xM) (Q : xM → Prop) : Prop := ∀ (o2 o7 o8 : Option xV), xGo xft xNf xmt xtr d 135 76 [some (.inr (some 59)), some (.inl x1), o2, some (.inl x3), some (.inl x4), some (.inl x5), some (.inl x6), o7, o8] [] (yS e M) (yV e Q)
def R_goThrough_128 (e : yE) (d : Nat) (x1 x6 : Int) (M : xM) (Q : xM → Prop) : Prop := ∀ (o2 o3 o4 o5 o7 o8 : Option xV), xGo xft xNf xmt xtr d 135 128 [some (.inr (some 59)), some (.inl x1), o2, o3, o4, o5, some (.inl x6), o7, o8] [] (yS e M) (yV e Q)
def R_goThrough_156 (e : yE) (d : Nat) (x1 x6 x7 x8 : Int) (M : xM) (Q : xM → Prop) : Prop := ∀ (o2 o3 o4 o5 : Option xV), xGo xft xNf xmt xtr d 135 156 [some (.inr (some 59)), some (.inl x1), o2, o3, o4, o5, some (.inl x6), some (.inl x7), some (.inl x8)] [] (yS e M) (yV e Q)
def R_goThrough_186 (e : yE) (d : Nat) (x1 x6 x7 x8 : Int) (M : xM) (Q : xM → Prop) : Prop := ∀ (o2 o3 o4 o5 : Option xV), xGo xft xNf xmt xtr d 135 186 [some (.inr (some 59)), some (.inl x1), o2, o3, o4, o5, some (.inl x6), some (.inl x7), some (.inl x8)] [] (yS e M) (yV e Q)
theorem t_goThrough_0 {e : yE} {d : Nat} {x1 x2 x3 x4 x5 : Int} {M : xM} {Q : xM → Prop} (hs : RSh e) (h :
    ∀ M1 : xM, M1 = xup M 59 43 x1 → 
    ((x2 = 0 ∨ x2 = 1) ∧ 
    (∀ M2 : xM, M2 = xup M1 59 44 x2 → 
    (∀ M3 : xM, M3 = xup M2 59 45 (0 : Int) → 
    (∀ M4 : xM, M4 = xup M3 59 46 (0 : Int) → 
    (∀ M5 : xM, M5 = xup M4 59 48 (0 : Int) → 
    (R_goThrough_28 e d x1 x3 x4 x5 (0 : Int) M5 Q))))))) : R_goThrough_0 e d x1 x2 x3 x4 x5 M Q := by
  intro o6 o7 o8
  refine xGo.in ?_
  refine And.intro (rs_ob hs) ?_
  obtain ⟨M1, hM1⟩ : ∃ z : xM, z = xup M 59 43 x1 := ⟨_, rfl⟩
  refine xgo_st (e := e) (M := M1) (by subst hM1; rfl) ?_
  replace h := h M1 hM1
  refine And.intro (rs_obv hs h.1) ?_
  replace h := h.2
  obtain ⟨M2, hM2⟩ : ∃ z : xM, z = xup M1 59 44 x2 := ⟨_, rfl⟩
  refine xgo_st (e := e) (M := M2) (by subst hM2; rfl) ?_
  replace h := h M2 hM2
  refine And.intro (rs_obv hs (by decide)) ?_
  obtain ⟨M3, hM3⟩ : ∃ z : xM, z = xup M2 59 45 (0 : Int) := ⟨_, rfl⟩
  refine xgo_st (e := e) (M := M3) (by subst hM3; rfl) ?_
  replace h := h M3 hM3
  refine And.intro (rs_ob hs) ?_
  obtain ⟨M4, hM4⟩ : ∃ z : xM, z = xup M3 59 46 (0 : Int) := ⟨_, rfl⟩
  refine xgo_st (e := e) (M := M4) (by subst hM4; rfl) ?_
  replace h := h M4 hM4
  refine And.intro (rs_obv hs (by decide)) ?_
  obtain ⟨M5, hM5⟩ : ∃ z : xM, z = xup M4 59 48 (0 : Int) := ⟨_, rfl⟩
  refine xgo_st (e := e) (M := M5) (by subst hM5; rfl) ?_
  replace h := h M5 hM5
  exact h _ _ _
theorem t_goThrough_28 {e : yE} {d : Nat} {x1 x3 x4 x5 x6 : Int} {M : xM} {Q : xM → Prop} (hs : RSh e) (h :
    (rg x6) ∧ (((5 : Int) ≤ x6 → 
      (∀ M1 : xM, M1 = xup M 59 31 (0 : Int) → 
      (∀ M2 : xM, M2 = xup M1 59 33 (0 : Int) → 
      (∀ M3 : xM, M3 = xup M2 59 42 (0 : Int) → 
      ((0 ≤ x1 ∧ x1 < 20) ∧ 
      (∀ M4 : xM, M4 = xup M3 59 35 (M3 75 x1) → 
      (R_goThrough_76 e d x1 x3 x4 x5 (0 : Int) M4 Q))))))) ∧ 
    (¬ ((5 : Int) ≤ x6) → 
      ((0 ≤ x6 ∧ x6 < 5) ∧ 
      (∀ M5 : xM, M5 = xup M 94 x6 (0 : Int) → 
      (R_goThrough_28 e d x1 x3 x4 x5 (x6 + 1) M5 Q)))))) : R_goThrough_28 e d x1 x3 x4 x5 x6 M Q := by
  intro o2 o7 o8
  refine xGo.in ?_
  refine And.intro (⟨h.1, rg_lit (by decide)⟩) (And.intro (fun c => ?_) (fun c => ?_))
  · replace h := h.2.1 c
    refine And.intro (rs_ob hs) ?_
    obtain ⟨M1, hM1⟩ : ∃ z : xM, z = xup M 59 31 (0 : Int) := ⟨_, rfl⟩
    refine xgo_st (e := e) (M := M1) (by subst hM1; rfl) ?_
    replace h := h M1 hM1
    refine And.intro (rs_ob hs) ?_
    obtain ⟨M2, hM2⟩ : ∃ z : xM, z = xup M1 59 33 (0 : Int) := ⟨_, rfl⟩
    refine xgo_st (e := e) (M := M2) (by subst hM2; rfl) ?_
    replace h := h M2 hM2
    refine And.intro (rs_ob hs) ?_
    obtain ⟨M3, hM3⟩ : ∃ z : xM, z = xup M2 59 42 (0 : Int) := ⟨_, rfl⟩
    refine xgo_st (e := e) (M := M3) (by subst hM3; rfl) ?_
    replace h := h M3 hM3
    refine And.intro (rs_ob hs) ?_
    refine And.intro (xi_ld (rs_16 hs) (h.1)) ?_
    replace h := h.2
    refine And.intro (rs_ob hs) ?_
    obtain ⟨M4, hM4⟩ : ∃ z : xM, z = xup M3 59 35 (M3 75 x1) := ⟨_, rfl⟩
    refine xgo_st (e := e) (M := M4) (by subst hM4; rfl) ?_
    replace h := h M4 hM4
    exact h _ _ _
  · replace h := h.2.2 c
    refine And.intro (rs_ob hs) ?_
    refine And.intro (xi_st (rs_35 hs) (h.1)) ?_
    replace h := h.2
    obtain ⟨M5, hM5⟩ : ∃ z : xM, z = xup M 94 x6 (0 : Int) := ⟨_, rfl⟩
    refine xgo_st (e := e) (M := M5) (by subst hM5; rfl) ?_
    replace h := h M5 hM5
    exact h _ _ _
theorem t_goThrough_76 {e : yE} {d : Nat} {x1 x3 x4 x5 x6 : Int} {M : xM} {Q : xM → Prop} (hs : RSh e) (h :
    (0 ≤ x1 ∧ x1 < 20) ∧ 
    ((rg x6 ∧ rg (M 75 x1)) ∧ (((M 75 x1) ≤ x6 → 
      (R_goThrough_128 e d x1 (0 : Int) M Q)) ∧ 
    (¬ ((M 75 x1) ≤ x6) → 
      ((0 ≤ (((3 : Int) * x1) + x6) ∧ (((3 : Int) * x1) + x6) < 60) ∧ 
      (R_pick e d x6 x3 x4 x5 M (fun y2 M1 => 
      R_newPlace e d (M 76 (((3 : Int) * x1) + x6)) y2 M1 (fun y4 M3 => 
      (0 ≤ x6 ∧ x6 < 100000) ∧ 
      (∀ M5 : xM, M5 = xup M3 87 x6 y4 → 
      (R_goThrough_76 e d x1 x3 x4 x5 (x6 + 1) M5 Q)))))))))) : R_goThrough_76 e d x1 x3 x4 x5 x6 M Q := by
  intro o2 o7 o8
  refine xGo.in ?_
  refine And.intro (rs_ob hs) ?_
  refine And.intro (xi_ld (rs_16 hs) (h.1)) ?_
  replace h := h.2
  refine And.intro (⟨h.1.1, h.1.2⟩) (And.intro (fun c => ?_) (fun c => ?_))
  · replace h := h.2.1 c
    exact h _ _ _ _ _ _
  · replace h := h.2.2 c
    refine And.intro (rs_ob hs) ?_
    refine And.intro (rs_ob hs) ?_
    refine And.intro (xi_ld (rs_17 hs) (h.1)) ?_
    replace h := h.2
    refine And.intro ⟨Nat.le_of_ble_eq_true rfl, Nat.le_of_ble_eq_true rfl, trivial⟩ ?_
    refine yI_use h (fun y2 M1 h => ?_)
    refine And.intro ⟨Nat.le_of_ble_eq_true rfl, Nat.le_of_ble_eq_true rfl, rs_ob hs⟩ ?_
    refine yI_use h (fun y4 M3 h => ?_)
    refine And.intro (xi_st (rs_28 hs) (h.1)) ?_
    replace h := h.2
    obtain ⟨M5, hM5⟩ : ∃ z : xM, z = xup M3 87 x6 y4 := ⟨_, rfl⟩
    refine xgo_st (e := e) (M := M5) (by subst hM5; rfl) ?_
    replace h := h M5 hM5
    exact h _ _ _
theorem t_goThrough_128 {e : yE} {d : Nat} {x1 x6 : Int} {M : xM} {Q : xM → Prop} (hs : RSh e) (h :
    (0 ≤ x1 ∧ x1 < 20) ∧ 
    ((rg x6 ∧ rg (M 77 x1)) ∧ (((M 77 x1) ≤ x6 → 
      ((0 ≤ x1 ∧ x1 < 20) ∧ 
      (R_node e d (0 : Int) (0 : Int) (M 75 x1) M (fun M1 => 
      Q M1)))) ∧ 
    (¬ ((M 77 x1) ≤ x6) → 
      ((0 ≤ x1 ∧ x1 < 20) ∧ 
      (R_pushRow e d x6 (M 75 x1) M (fun y3 M2 => 
      R_goThrough_156 e d x1 x6 y3 (0 : Int) M2 Q))))))) : R_goThrough_128 e d x1 x6 M Q := by
  intro o2 o3 o4 o5 o7 o8
  refine xGo.in ?_
  refine And.intro (rs_ob hs) ?_
  refine And.intro (xi_ld (rs_18 hs) (h.1)) ?_
  replace h := h.2
  refine And.intro (⟨h.1.1, h.1.2⟩) (And.intro (fun c => ?_) (fun c => ?_))
  · replace h := h.2.1 c
    refine And.intro (rs_ob hs) ?_
    refine And.intro (xi_ld (rs_16 hs) (h.1)) ?_
    replace h := h.2
    refine And.intro ⟨Nat.le_of_ble_eq_true rfl, Nat.le_of_ble_eq_true rfl, rs_ob hs⟩ ?_
    refine yV_use h (fun _ M1 h => ?_)
    exact yV_ret (r := .inl 0) h
  · replace h := h.2.2 c
    refine And.intro (rs_ob hs) ?_
    refine And.intro (xi_ld (rs_16 hs) (h.1)) ?_
    replace h := h.2
    refine And.intro ⟨Nat.le_of_ble_eq_true rfl, Nat.le_of_ble_eq_true rfl, rs_ob hs⟩ ?_
    refine yI_use h (fun y3 M2 h => ?_)
    exact h _ _ _ _
theorem t_goThrough_156 {e : yE} {d : Nat} {x1 x6 x7 x8 : Int} {M : xM} {Q : xM → Prop} (hs : RSh e) (h :
    (rg x8) ∧ (((16 : Int) ≤ x8 → 
      (R_goThrough_186 e d x1 x6 x7 (0 : Int) M Q)) ∧ 
    (¬ ((16 : Int) ≤ x8) → 
      ((0 ≤ (((16 : Int) * x7) + x8) ∧ (((16 : Int) * x7) + x8) < 128000) ∧ 
      (∀ M1 : xM, M1 = xup M 85 (((16 : Int) * x7) + x8) (-1 : Int) → 
      (R_goThrough_156 e d x1 x6 x7 (x8 + 1) M1 Q)))))) : R_goThrough_156 e d x1 x6 x7 x8 M Q := by
  intro o2 o3 o4 o5
  refine xGo.in ?_
  refine And.intro (⟨h.1, rg_lit (by decide)⟩) (And.intro (fun c => ?_) (fun c => ?_))
  · replace h := h.2.1 c
    exact h _ _ _ _
  · replace h := h.2.2 c
    refine And.intro (rs_ob hs) ?_
    refine And.intro (xi_st (rs_26 hs) (h.1)) ?_
    replace h := h.2
    obtain ⟨M1, hM1⟩ : ∃ z : xM, z = xup M 85 (((16 : Int) * x7) + x8) (-1 : Int) := ⟨_, rfl⟩
    refine xgo_st (e := e) (M := M1) (by subst hM1; rfl) ?_
    replace h := h M1 hM1
    exact h _ _ _ _
theorem t_goThrough_186 {e : yE} {d : Nat} {x1 x6 x7 x8 : Int} {M : xM} {Q : xM → Prop} (hs : RSh e) (h :
    (0 ≤ x1 ∧ x1 < 20) ∧ 
    ((rg x8 ∧ rg (M 75 x1)) ∧ (((M 75 x1) ≤ x8 → 
      (R_goThrough_128 e d x1 (x6 + 1) M Q)) ∧ 
    (¬ ((M 75 x1) ≤ x8) → 
      (R_patternOf e d x1 x6 x8 M (fun y2 M1 => 
      (0 ≤ x8 ∧ x8 < 100000) ∧ 
      (R_setCell e d x7 x8 y2 (M1 87 x8) M1 (fun M3 => 
      R_goThrough_186 e d x1 x6 x7 (x8 + 1) M3 Q)))))))) : R_goThrough_186 e d x1 x6 x7 x8 M Q := by
  intro o2 o3 o4 o5
  refine xGo.in ?_
  refine And.intro (rs_ob hs) ?_
  refine And.intro (xi_ld (rs_16 hs) (h.1)) ?_
  replace h := h.2
  refine And.intro (⟨h.1.1, h.1.2⟩) (And.intro (fun c => ?_) (fun c => ?_))
  · replace h := h.2.1 c
    exact h _ _ _ _ _ _
  · replace h := h.2.2 c
    refine And.intro ⟨Nat.le_of_ble_eq_true rfl, Nat.le_of_ble_eq_true rfl, rs_ob hs⟩ ?_
    refine yI_use h (fun y2 M1 h => ?_)
    refine And.intro (rs_ob hs) ?_
    refine And.intro (xi_ld (rs_28 hs) (h.1)) ?_
    replace h := h.2
    refine And.intro ⟨Nat.le_of_ble_eq_true rfl, Nat.le_of_ble_eq_true rfl, rs_ob hs⟩ ?_
    refine yV_use h (fun _ M3 h => ?_)
    exact h _ _ _ _
theorem t_goThrough {e : yE} {d : Nat} {x1 : Int} {x2 : Int} {x3 : Int} {x4 : Int} {x5 : Int} {M : xM} {Q : xM → Prop} (h : R_goThrough_0 e d x1 x2 x3 x4 x5 M Q) : R_goThrough e (d + 1) x1 x2 x3 x4 x5 M Q := h _ _ _
def R_countNode_0 (e : yE) (d : Nat) (x1 : Int) (M : xM) (Q : Int → xM → Prop) : Prop := xGo xft xNf xmt xtr d 136 0 [some (.inr (some 59)), some (.inl x1)] [] (yS e M) (yI e Q)
def R_countNode_22 (e : yE) (d : Nat) (x1 s1 : Int) (M : xM) (Q : Int → xM → Prop) : Prop := xGo xft xNf xmt xtr d 136 22 [some (.inr (some 59)), some (.inl x1)] [.inl s1, .inr (some 59)] (yS e M) (yI e Q)
theorem t_countNode_0 {e : yE} {d : Nat} {x1 : Int} {M : xM} {Q : Int → xM → Prop} (hs : RSh e) (h :
    (rg (M 59 45)) ∧ ((¬ (M 59 45) = 0 → 
      (R_countNode_22 e d x1 (1 : Int) M Q)) ∧ 
    (¬ (¬ (M 59 45) = 0) → 
      ((rg (M 59 46)) ∧ ((¬ (M 59 46) = (120 : Int) → 
        (R_countNode_22 e d x1 (0 : Int) M Q)) ∧ 
      (¬ (¬ (M 59 46) = (120 : Int)) → 
        (R_countNode_22 e d x1 (1 : Int) M Q))))))) : R_countNode_0 e d x1 M Q := by
  refine xGo.in ?_
  refine And.intro (rs_ob hs) ?_
  refine And.intro (h.1) (And.intro (fun c => ?_) (fun c => ?_))
  · replace h := h.2.1 c
    exact h
  · replace h := h.2.2 c
    refine And.intro (rs_ob hs) ?_
    refine And.intro (⟨h.1, rg_lit (by decide)⟩) (And.intro (fun c => ?_) (fun c => ?_))
    · replace h := h.2.1 c
      exact h
    · replace h := h.2.2 c
      exact h
theorem t_countNode_22 {e : yE} {d : Nat} {x1 s1 : Int} {M : xM} {Q : Int → xM → Prop} (hs : RSh e) (h :
    (s1 = 0 ∨ s1 = 1) ∧ 
    (∀ M1 : xM, M1 = xup M 59 45 s1 → 
    (∀ M2 : xM, M2 = xup M1 59 46 ((M1 59 46) + (1 : Int)) → 
    ((0 ≤ x1 ∧ x1 < 5) ∧ 
    ((0 ≤ x1 ∧ x1 < 5) ∧ 
    (∀ M3 : xM, M3 = xup M2 94 x1 ((M2 94 x1) + (1 : Int)) → 
    ((rg (M3 59 45)) ∧ ((¬ (M3 59 45) = 0 → 
      (Q (0 : Int) M3)) ∧ 
    (¬ (¬ (M3 59 45) = 0) → 
      (Q (1 : Int) M3)))))))))) : R_countNode_22 e d x1 s1 M Q := by
  refine xGo.in ?_
  refine And.intro (rs_obv hs h.1) ?_
  replace h := h.2
  obtain ⟨M1, hM1⟩ : ∃ z : xM, z = xup M 59 45 s1 := ⟨_, rfl⟩
  refine xgo_st (e := e) (M := M1) (by subst hM1; rfl) ?_
  replace h := h M1 hM1
  refine And.intro (rs_ob hs) ?_
  refine And.intro (rs_ob hs) ?_
  obtain ⟨M2, hM2⟩ : ∃ z : xM, z = xup M1 59 46 ((M1 59 46) + (1 : Int)) := ⟨_, rfl⟩
  refine xgo_st (e := e) (M := M2) (by subst hM2; rfl) ?_
  replace h := h M2 hM2
  refine And.intro (rs_ob hs) ?_
  refine And.intro (xi_ld (rs_35 hs) (h.1)) ?_
  replace h := h.2
  refine And.intro (xi_st (rs_35 hs) (h.1)) ?_
  replace h := h.2
  obtain ⟨M3, hM3⟩ : ∃ z : xM, z = xup M2 94 x1 ((M2 94 x1) + (1 : Int)) := ⟨_, rfl⟩
  refine xgo_st (e := e) (M := M3) (by subst hM3; rfl) ?_
  replace h := h M3 hM3
  refine And.intro (rs_ob hs) ?_
  refine And.intro (h.1) (And.intro (fun c => ?_) (fun c => ?_))
  · replace h := h.2.1 c
    exact And.intro (by decide) (yI_ret h)
  · replace h := h.2.2 c
    exact And.intro (by decide) (yI_ret h)
theorem t_countNode {e : yE} {d : Nat} {x1 : Int} {M : xM} {Q : Int → xM → Prop} (h : R_countNode_0 e d x1 M Q) : R_countNode e (d + 1) x1 M Q := h
def R_firstOpen_0 (e : yE) (d : Nat) (x1 x2 : Int) (M : xM) (Q : Int → xM → Prop) : Prop := ∀ (o3 : Option xV), xGo xft xNf xmt xtr d 137 0 [some (.inr (some 59)), some (.inl x1), some (.inl x2), o3] [] (yS e M) (yI e Q)
def R_firstOpen_2 (e : yE) (d : Nat) (x1 x2 x3 : Int) (M : xM) (Q : Int → xM → Prop) : Prop := xGo xft xNf xmt xtr d 137 2 [some (.inr (some 59)), some (.inl x1), some (.inl x2), some (.inl x3)] [] (yS e M) (yI e Q)
theorem t_firstOpen_0 {e : yE} {d : Nat} {x1 x2 : Int} {M : xM} {Q : Int → xM → Prop} (hs : RSh e) (h :
    R_firstOpen_2 e d x1 x2 (0 : Int) M Q) : R_firstOpen_0 e d x1 x2 M Q := by
  intro o3
  refine xGo.in ?_
  exact h
theorem t_firstOpen_2 {e : yE} {d : Nat} {x1 x2 x3 : Int} {M : xM} {Q : Int → xM → Prop} (hs : RSh e) (h :
    (rg x3 ∧ rg x2) ∧ ((x2 ≤ x3 → 
      (Q (-1 : Int) M)) ∧ 
    (¬ (x2 ≤ x3) → 
      (R_cell e d x1 x3 M (fun y2 M1 => 
      (rg y2) ∧ ((y2 < 0 → 
        (R_firstOpen_2 e d x1 x2 (x3 + 1) M1 Q)) ∧ 
      (¬ (y2 < 0) → 
        (Q x3 M1)))))))) : R_firstOpen_2 e d x1 x2 x3 M Q := by
  refine xGo.in ?_
  refine And.intro (⟨h.1.1, h.1.2⟩) (And.intro (fun c => ?_) (fun c => ?_))
  · replace h := h.2.1 c
    exact yI_ret h
  · replace h := h.2.2 c
    refine And.intro ⟨Nat.le_of_ble_eq_true rfl, Nat.le_of_ble_eq_true rfl, rs_ob hs⟩ ?_
    refine yI_use h (fun y2 M1 h => ?_)
    refine And.intro (h.1) (And.intro (fun c => ?_) (fun c => ?_))
    · replace h := h.2.1 c
      exact h
    · replace h := h.2.2 c
      exact yI_ret h
theorem t_firstOpen {e : yE} {d : Nat} {x1 : Int} {x2 : Int} {M : xM} {Q : Int → xM → Prop} (h : R_firstOpen_0 e d x1 x2 M Q) : R_firstOpen e (d + 1) x1 x2 M Q := h _
def R_isEither_0 (e : yE) (d : Nat) (x1 x2 : Int) (M : xM) (Q : Int → xM → Prop) : Prop := xGo xft xNf xmt xtr d 138 0 [some (.inr (some 59)), some (.inl x1), some (.inl x2)] [] (yS e M) (yI e Q)
theorem t_isEither_0 {e : yE} {d : Nat} {x1 x2 : Int} {M : xM} {Q : Int → xM → Prop} (hs : RSh e) (h :
    R_cell e d x1 x2 M (fun y2 M1 => 
    (rg y2) ∧ ((y2 < 0 → 
      (Q (0 : Int) M1)) ∧ 
    (¬ (y2 < 0) → 
      (R_cell e d x1 x2 M1 (fun y4 M3 => 
      (0 ≤ y4 ∧ y4 < 300) ∧ 
      ((rg (M3 68 y4)) ∧ ((¬ (M3 68 y4) = (4 : Int) → 
        (Q (0 : Int) M3)) ∧ 
      (¬ (¬ (M3 68 y4) = (4 : Int)) → 
        (Q (1 : Int) M3)))))))))) : R_isEither_0 e d x1 x2 M Q := by
  refine xGo.in ?_
  refine And.intro ⟨Nat.le_of_ble_eq_true rfl, Nat.le_of_ble_eq_true rfl, rs_ob hs⟩ ?_
  refine yI_use h (fun y2 M1 h => ?_)
  refine And.intro (h.1) (And.intro (fun c => ?_) (fun c => ?_))
  · replace h := h.2.1 c
    exact And.intro (by decide) (yI_ret h)
  · replace h := h.2.2 c
    refine And.intro (rs_ob hs) ?_
    refine And.intro ⟨Nat.le_of_ble_eq_true rfl, Nat.le_of_ble_eq_true rfl, rs_ob hs⟩ ?_
    refine yI_use h (fun y4 M3 h => ?_)
    refine And.intro (xi_ld (rs_9 hs) (h.1)) ?_
    replace h := h.2
    refine And.intro (⟨h.1, rg_lit (by decide)⟩) (And.intro (fun c => ?_) (fun c => ?_))
    · replace h := h.2.1 c
      exact And.intro (by decide) (yI_ret h)
    · replace h := h.2.2 c
      exact And.intro (by decide) (yI_ret h)
theorem t_isEither {e : yE} {d : Nat} {x1 : Int} {x2 : Int} {M : xM} {Q : Int → xM → Prop} (h : R_isEither_0 e d x1 x2 M Q) : R_isEither e (d + 1) x1 x2 M Q := h
def R_split_0 (e : yE) (d : Nat) (x1 x2 x3 x4 x5 : Int) (M : xM) (Q : xM → Prop) : Prop := ∀ (o6 o7 : Option xV), xGo xft xNf xmt xtr d 139 0 [some (.inr (some 59)), some (.inl x1), some (.inl x2), some (.inl x3), some (.inl x4), some (.inl x5), o6, o7] [] (yS e M) (yV e Q)
def R_split_30 (e : yE) (d : Nat) (x2 x3 x4 x5 x7 : Int) (M : xM) (Q : xM → Prop) : Prop := ∀ (o1 o6 : Option xV), xGo xft xNf xmt xtr d 139 30 [some (.inr (some 59)), o1, some (.inl x2), some (.inl x3), some (.inl x4), some (.inl x5), o6, some (.inl x7)] [] (yS e M) (yV e Q)
theorem t_split_0 {e : yE} {d : Nat} {x1 x2 x3 x4 x5 : Int} {M : xM} {Q : xM → Prop} (hs : RSh e) (h :
    (rg ((M 59 31) - x1)) ∧ ((¬ ((M 59 31) - x1) = (24 : Int) → 
      (R_pushRow e d (0 : Int) x5 M (fun y2 M1 => 
      R_split_30 e d x2 x3 x4 x5 y2 M1 Q))) ∧ 
    (¬ (¬ ((M 59 31) - x1) = (24 : Int)) → 
      (∀ M3 : xM, M3 = xup M 59 45 (1 : Int) → 
      (Q M3))))) : R_split_0 e d x1 x2 x3 x4 x5 M Q := by
  intro o6 o7
  refine xGo.in ?_
  refine And.intro (rs_ob hs) ?_
  refine And.intro (⟨h.1, rg_lit (by decide)⟩) (And.intro (fun c => ?_) (fun c => ?_))
  · replace h := h.2.1 c
    refine And.intro ⟨Nat.le_of_ble_eq_true rfl, Nat.le_of_ble_eq_true rfl, rs_ob hs⟩ ?_
    refine yI_use h (fun y2 M1 h => ?_)
    exact h _ _
  · replace h := h.2.2 c
    refine And.intro (rs_obv hs (by decide)) ?_
    obtain ⟨M3, hM3⟩ : ∃ z : xM, z = xup M 59 45 (1 : Int) := ⟨_, rfl⟩
    refine xgo_st (e := e) (M := M3) (by subst hM3; rfl) ?_
    replace h := h M3 hM3
    exact yV_ret (r := .inl 0) h
theorem t_split_30 {e : yE} {d : Nat} {x2 x3 x4 x5 x7 : Int} {M : xM} {Q : xM → Prop} (hs : RSh e) (h :
    (rg x7 ∧ rg x2) ∧ ((x7 ≤ x2 → 
      (R_cell e d x2 x3 M (fun y2 M1 => 
      (0 ≤ ((3 : Int) * y2) ∧ ((3 : Int) * y2) < 900) ∧ 
      ((0 ≤ (x4 + x3) ∧ (x4 + x3) < 100000) ∧ 
      (R_setCell e d x2 x3 (M1 71 ((3 : Int) * y2)) (M1 87 (x4 + x3)) M1 (fun M3 => 
      (0 ≤ (((3 : Int) * y2) + (1 : Int)) ∧ (((3 : Int) * y2) + (1 : Int)) < 900) ∧ 
      ((0 ≤ (x4 + x3) ∧ (x4 + x3) < 100000) ∧ 
      (R_setCell e d (x2 + (1 : Int)) x3 (M3 71 (((3 : Int) * y2) + (1 : Int))) (M3 87 (x4 + x3)) M3 (fun M4 => 
      Q M4))))))))) ∧ 
    (¬ (x7 ≤ x2) → 
      ((0 ≤ (x7 - (1 : Int)) ∧ (x7 - (1 : Int)) < 8000) ∧ 
      ((0 ≤ x7 ∧ x7 < 8000) ∧ 
      (∀ M5 : xM, M5 = xup M 83 x7 (M 83 (x7 - (1 : Int))) → 
      (R_copyRow e d (x7 - (1 : Int)) x7 x5 M5 (fun M6 => 
      R_split_30 e d x2 x3 x4 x5 (x7 + (-1 : Int)) M6 Q)))))))) : R_split_30 e d x2 x3 x4 x5 x7 M Q := by
  intro o1 o6
  refine xGo.in ?_
  refine And.intro (⟨h.1.1, h.1.2⟩) (And.intro (fun c => ?_) (fun c => ?_))
  · replace h := h.2.1 c
    refine And.intro ⟨Nat.le_of_ble_eq_true rfl, Nat.le_of_ble_eq_true rfl, rs_ob hs⟩ ?_
    refine yI_use h (fun y2 M1 h => ?_)
    refine And.intro (rs_ob hs) ?_
    refine And.intro (xi_ld (rs_12 hs) (h.1)) ?_
    replace h := h.2
    refine And.intro (rs_ob hs) ?_
    refine And.intro (xi_ld (rs_28 hs) (h.1)) ?_
    replace h := h.2
    refine And.intro ⟨Nat.le_of_ble_eq_true rfl, Nat.le_of_ble_eq_true rfl, rs_ob hs⟩ ?_
    refine yV_use h (fun _ M3 h => ?_)
    refine And.intro (rs_ob hs) ?_
    refine And.intro (xi_ld (rs_12 hs) (h.1)) ?_
    replace h := h.2
    refine And.intro (rs_ob hs) ?_
    refine And.intro (xi_ld (rs_28 hs) (h.1)) ?_
    replace h := h.2
    refine And.intro ⟨Nat.le_of_ble_eq_true rfl, Nat.le_of_ble_eq_true rfl, rs_ob hs⟩ ?_
    refine yV_use h (fun _ M4 h => ?_)
    exact yV_ret (r := .inl 0) h
  · replace h := h.2.2 c
    refine And.intro (rs_ob hs) ?_
    refine And.intro (rs_ob hs) ?_
    refine And.intro (xi_ld (rs_24 hs) (h.1)) ?_
    replace h := h.2
    refine And.intro (xi_st (rs_24 hs) (h.1)) ?_
    replace h := h.2
    obtain ⟨M5, hM5⟩ : ∃ z : xM, z = xup M 83 x7 (M 83 (x7 - (1 : Int))) := ⟨_, rfl⟩
    refine xgo_st (e := e) (M := M5) (by subst hM5; rfl) ?_
    replace h := h M5 hM5
    refine And.intro ⟨Nat.le_of_ble_eq_true rfl, Nat.le_of_ble_eq_true rfl, rs_ob hs⟩ ?_
    refine yV_use h (fun _ M6 h => ?_)
    exact h _ _
theorem t_split {e : yE} {d : Nat} {x1 : Int} {x2 : Int} {x3 : Int} {x4 : Int} {x5 : Int} {M : xM} {Q : xM → Prop} (h : R_split_0 e d x1 x2 x3 x4 x5 M Q) : R_split e (d + 1) x1 x2 x3 x4 x5 M Q := h _ _
def R_node_0 (e : yE) (d : Nat) (x1 x2 x3 : Int) (M : xM) (Q : xM → Prop) : Prop := ∀ (o4 o5 o6 : Option xV), xGo xft xNf xmt xtr d 140 0 [some (.inr (some 59)), some (.inl x1), some (.inl x2), some (.inl x3), o4, o5, o6] [] (yS e M) (yV e Q)
def R_node_35 (e : yE) (d : Nat) (x1 x2 x3 x4 x5 : Int) (M : xM) (Q : xM → Prop) : Prop := ∀ (o6 : Option xV), xGo xft xNf xmt xtr d 140 35 [some (.inr (some 59)), some (.inl x1), some (.inl x2), some (.inl x3), some (.inl x4), some (.inl x5), o6] [] (yS e M) (yV e Q)
def R_node_78 (e : yE) (d : Nat) (x1 x2 x3 x4 x5 : Int) (M : xM) (Q : xM → Prop) : Prop := ∀ (o6 : Option xV), xGo xft xNf xmt xtr d 140 78 [some (.inr (some 59)), some (.inl x1), some (.inl x2), some (.inl x3), some (.inl x4), some (.inl x5), o6] [] (yS e M) (yV e Q)
def R_node_118 (e : yE) (d : Nat) (x1 x2 x3 x4 x5 x6 : Int) (M : xM) (Q : xM → Prop) : Prop := xGo xft xNf xmt xtr d 140 118 [some (.inr (some 59)), some (.inl x1), some (.inl x2), some (.inl x3), some (.inl x4), some (.inl x5), some (.inl x6)] [] (yS e M) (yV e Q)
def R_node_127 (e : yE) (d : Nat) (x1 x2 x3 x4 x5 x6 : Int) (M : xM) (Q : xM → Prop) : Prop := xGo xft xNf xmt xtr d 140 127 [some (.inr (some 59)), some (.inl x1), some (.inl x2), some (.inl x3), some (.inl x4), some (.inl x5), some (.inl x6)] [] (yS e M) (yV e Q)
def R_node_182 (e : yE) (d : Nat) (x1 x4 : Int) (M : xM) (Q : xM → Prop) : Prop := ∀ (o2 o3 o5 o6 : Option xV), xGo xft xNf xmt xtr d 140 182 [some (.inr (some 59)), some (.inl x1), o2, o3, some (.inl x4), o5, o6] [] (yS e M) (yV e Q)
theorem t_node_0 {e : yE} {d : Nat} {x1 x2 x3 : Int} {M : xM} {Q : xM → Prop} (hs : RSh e) (h :
    (rg x1 ∧ rg (M 59 31)) ∧ (((M 59 31) ≤ x1 → 
      (R_node_35 e d x1 x2 x3 ((M 59 33) - (((M 59 31) - x1) * x3)) (-1 : Int) M Q)) ∧ 
    (¬ ((M 59 31) ≤ x1) → 
      (R_firstOpen e d x1 x3 M (fun y2 M1 => 
      R_node_35 e d x1 x2 x3 ((M 59 33) - (((M 59 31) - x1) * x3)) y2 M1 Q))))) : R_node_0 e d x1 x2 x3 M Q := by
  intro o4 o5 o6
  refine xGo.in ?_
  refine And.intro (rs_ob hs) ?_
  refine And.intro (rs_ob hs) ?_
  refine And.intro (rs_ob hs) ?_
  refine And.intro (⟨h.1.1, h.1.2⟩) (And.intro (fun c => ?_) (fun c => ?_))
  · replace h := h.2.1 c
    exact h _
  · replace h := h.2.2 c
    refine And.intro ⟨Nat.le_of_ble_eq_true rfl, Nat.le_of_ble_eq_true rfl, rs_ob hs⟩ ?_
    refine yI_use h (fun y2 M1 h => ?_)
    exact h _
theorem t_node_35 {e : yE} {d : Nat} {x1 x2 x3 x4 x5 : Int} {M : xM} {Q : xM → Prop} (hs : RSh e) (h :
    (rg x5) ∧ ((x5 < 0 → 
      (R_node_78 e d x1 x2 x3 x4 x5 M Q)) ∧ 
    (¬ (x5 < 0) → 
      (R_isEither e d x1 x5 M (fun y2 M1 => 
      (rg y2) ∧ ((y2 = 0 → 
        (R_node_78 e d x1 x2 x3 x4 x5 M1 Q)) ∧ 
      (¬ (y2 = 0) → 
        ((rg (M1 59 45)) ∧ ((¬ (M1 59 45) = 0 → 
          (R_node_78 e d x1 x2 x3 x4 x5 M1 Q)) ∧ 
        (¬ (¬ (M1 59 45) = 0) → 
          (R_split e d x1 x1 x5 x2 x3 M1 (fun M3 => 
          R_firstOpen e d x1 x3 M3 (fun y5 M4 => 
          R_node_35 e d x1 x2 x3 x4 y5 M4 Q))))))))))))) : R_node_35 e d x1 x2 x3 x4 x5 M Q := by
  intro o6
  refine xGo.in ?_
  refine And.intro (h.1) (And.intro (fun c => ?_) (fun c => ?_))
  · replace h := h.2.1 c
    exact h _
  · replace h := h.2.2 c
    refine And.intro ⟨Nat.le_of_ble_eq_true rfl, Nat.le_of_ble_eq_true rfl, rs_ob hs⟩ ?_
    refine yI_use h (fun y2 M1 h => ?_)
    refine And.intro (h.1) (And.intro (fun c => ?_) (fun c => ?_))
    · replace h := h.2.1 c
      exact h _
    · replace h := h.2.2 c
      refine And.intro (rs_ob hs) ?_
      refine And.intro (h.1) (And.intro (fun c => ?_) (fun c => ?_))
      · replace h := h.2.1 c
        exact h _
      · replace h := h.2.2 c
        refine And.intro ⟨Nat.le_of_ble_eq_true rfl, Nat.le_of_ble_eq_true rfl, rs_ob hs⟩ ?_
        refine yV_use h (fun _ M3 h => ?_)
        refine And.intro ⟨Nat.le_of_ble_eq_true rfl, Nat.le_of_ble_eq_true rfl, rs_ob hs⟩ ?_
        refine yI_use h (fun y5 M4 h => ?_)
        exact h _
theorem t_node_78 {e : yE} {d : Nat} {x1 x2 x3 x4 x5 : Int} {M : xM} {Q : xM → Prop} (hs : RSh e) (h :
    (rg (M 59 45)) ∧ ((¬ (M 59 45) = 0 → 
      (R_node_182 e d x1 x4 M Q)) ∧ 
    (¬ (¬ (M 59 45) = 0) → 
      ((rg x1 ∧ rg (M 59 31)) ∧ ((¬ x1 = (M 59 31) → 
        ((rg x5) ∧ ((0 ≤ x5 → 
          (R_node_118 e d x1 x2 x3 x4 x5 x1 M Q)) ∧ 
        (¬ (0 ≤ x5) → 
          (R_leaf e d x1 x2 x3 M (fun M1 => 
          R_node_182 e d x1 x4 M1 Q)))))) ∧ 
      (¬ (¬ x1 = (M 59 31)) → 
        (R_failure e d  M (fun M2 => 
        R_node_182 e d x1 x4 M2 Q)))))))) : R_node_78 e d x1 x2 x3 x4 x5 M Q := by
  intro o6
  refine xGo.in ?_
  refine And.intro (rs_ob hs) ?_
  refine And.intro (h.1) (And.intro (fun c => ?_) (fun c => ?_))
  · replace h := h.2.1 c
    exact h _ _ _ _
  · replace h := h.2.2 c
    refine And.intro (rs_ob hs) ?_
    refine And.intro (⟨h.1.1, h.1.2⟩) (And.intro (fun c => ?_) (fun c => ?_))
    · replace h := h.2.1 c
      refine And.intro (h.1) (And.intro (fun c => ?_) (fun c => ?_))
      · replace h := h.2.1 c
        exact h
      · replace h := h.2.2 c
        refine And.intro ⟨Nat.le_of_ble_eq_true rfl, Nat.le_of_ble_eq_true rfl, rs_ob hs⟩ ?_
        refine yV_use h (fun _ M1 h => ?_)
        exact h _ _ _ _
    · replace h := h.2.2 c
      refine And.intro ⟨Nat.le_of_ble_eq_true rfl, Nat.le_of_ble_eq_true rfl, rs_ob hs⟩ ?_
      refine yV_use h (fun _ M2 h => ?_)
      exact h _ _ _ _
theorem t_node_118 {e : yE} {d : Nat} {x1 x2 x3 x4 x5 x6 : Int} {M : xM} {Q : xM → Prop} (hs : RSh e) (h :
    (rg x6 ∧ rg (M 59 31)) ∧ (((M 59 31) ≤ x6 → 
      (R_countNode e d (0 : Int) M (fun y2 M1 => 
      (rg y2) ∧ ((y2 = 0 → 
        (R_node_182 e d x1 x4 M1 Q)) ∧ 
      (¬ (y2 = 0) → 
        (R_test e d x1 x5 x2 x3 M1 (fun M3 => 
        R_node_182 e d x1 x4 M3 Q))))))) ∧ 
    (¬ ((M 59 31) ≤ x6) → 
      (R_node_127 e d x1 x2 x3 x4 x5 x6 M Q)))) : R_node_118 e d x1 x2 x3 x4 x5 x6 M Q := by
  refine xGo.in ?_
  refine And.intro (rs_ob hs) ?_
  refine And.intro (⟨h.1.1, h.1.2⟩) (And.intro (fun c => ?_) (fun c => ?_))
  · replace h := h.2.1 c
    refine And.intro ⟨Nat.le_of_ble_eq_true rfl, Nat.le_of_ble_eq_true rfl, rs_ob hs⟩ ?_
    refine yI_use h (fun y2 M1 h => ?_)
    refine And.intro (h.1) (And.intro (fun c => ?_) (fun c => ?_))
    · replace h := h.2.1 c
      exact h _ _ _ _
    · replace h := h.2.2 c
      refine And.intro ⟨Nat.le_of_ble_eq_true rfl, Nat.le_of_ble_eq_true rfl, rs_ob hs⟩ ?_
      refine yV_use h (fun _ M3 h => ?_)
      exact h _ _ _ _
  · replace h := h.2.2 c
    exact h
theorem t_node_127 {e : yE} {d : Nat} {x1 x2 x3 x4 x5 x6 : Int} {M : xM} {Q : xM → Prop} (hs : RSh e) (h :
    R_isEither e d x6 x5 M (fun y2 M1 => 
    (rg y2) ∧ ((y2 = 0 → 
      (R_node_118 e d x1 x2 x3 x4 x5 (x6 + 1) M1 Q)) ∧ 
    (¬ (y2 = 0) → 
      ((rg (M1 59 45)) ∧ ((¬ (M1 59 45) = 0 → 
        (R_node_118 e d x1 x2 x3 x4 x5 (x6 + 1) M1 Q)) ∧ 
      (¬ (¬ (M1 59 45) = 0) → 
        (R_split e d x1 x6 x5 x2 x3 M1 (fun M3 => 
        R_node_127 e d x1 x2 x3 x4 x5 x6 M3 Q))))))))) : R_node_127 e d x1 x2 x3 x4 x5 x6 M Q := by
  refine xGo.in ?_
  refine And.intro ⟨Nat.le_of_ble_eq_true rfl, Nat.le_of_ble_eq_true rfl, rs_ob hs⟩ ?_
  refine yI_use h (fun y2 M1 h => ?_)
  refine And.intro (h.1) (And.intro (fun c => ?_) (fun c => ?_))
  · replace h := h.2.1 c
    exact h
  · replace h := h.2.2 c
    refine And.intro (rs_ob hs) ?_
    refine And.intro (h.1) (And.intro (fun c => ?_) (fun c => ?_))
    · replace h := h.2.1 c
      exact h
    · replace h := h.2.2 c
      refine And.intro ⟨Nat.le_of_ble_eq_true rfl, Nat.le_of_ble_eq_true rfl, rs_ob hs⟩ ?_
      refine yV_use h (fun _ M3 h => ?_)
      exact h
theorem t_node_182 {e : yE} {d : Nat} {x1 x4 : Int} {M : xM} {Q : xM → Prop} (hs : RSh e) (h :
    ∀ M1 : xM, M1 = xup M 59 31 x1 → 
    (∀ M2 : xM, M2 = xup M1 59 33 x4 → 
    (Q M2))) : R_node_182 e d x1 x4 M Q := by
  intro o2 o3 o5 o6
  refine xGo.in ?_
  refine And.intro (rs_ob hs) ?_
  obtain ⟨M1, hM1⟩ : ∃ z : xM, z = xup M 59 31 x1 := ⟨_, rfl⟩
  refine xgo_st (e := e) (M := M1) (by subst hM1; rfl) ?_
  replace h := h M1 hM1
  refine And.intro (rs_ob hs) ?_
  obtain ⟨M2, hM2⟩ : ∃ z : xM, z = xup M1 59 33 x4 := ⟨_, rfl⟩
  refine xgo_st (e := e) (M := M2) (by subst hM2; rfl) ?_
  replace h := h M2 hM2
  exact yV_ret (r := .inl 0) h
theorem t_node {e : yE} {d : Nat} {x1 : Int} {x2 : Int} {x3 : Int} {M : xM} {Q : xM → Prop} (h : R_node_0 e d x1 x2 x3 M Q) : R_node e (d + 1) x1 x2 x3 M Q := h _ _ _
def R_failure_0 (e : yE) (d : Nat) (M : xM) (Q : xM → Prop) : Prop := ∀ (o1 : Option xV), xGo xft xNf xmt xtr d 141 0 [some (.inr (some 59)), o1] [] (yS e M) (yV e Q)
def R_failure_34 (e : yE) (d : Nat) (x1 : Int) (M : xM) (Q : xM → Prop) : Prop := xGo xft xNf xmt xtr d 141 34 [some (.inr (some 59)), some (.inl x1)] [] (yS e M) (yV e Q)
theorem t_failure_0 {e : yE} {d : Nat} {M : xM} {Q : xM → Prop} (hs : RSh e) (h :
    R_countNode e d (3 : Int) M (fun y2 M1 => 
    (rg y2) ∧ ((y2 = 0 → 
      (Q M1)) ∧ 
    (¬ (y2 = 0) → 
      ((rg (M1 59 44)) ∧ ((¬ (M1 59 44) = 0 → 
        (Q M1)) ∧ 
      (¬ (¬ (M1 59 44) = 0) → 
        ((rg (M1 59 48)) ∧ ((¬ (M1 59 48) = 0 → 
          (Q M1)) ∧ 
        (¬ (¬ (M1 59 48) = 0) → 
          (∀ M3 : xM, M3 = xup M1 59 48 (1 : Int) → 
          (∀ M4 : xM, M4 = xup M3 59 50 (0 : Int) → 
          (R_failure_34 e d (0 : Int) M4 Q))))))))))))) : R_failure_0 e d  M Q := by
  intro o1
  refine xGo.in ?_
  refine And.intro ⟨Nat.le_of_ble_eq_true rfl, Nat.le_of_ble_eq_true rfl, rs_ob hs⟩ ?_
  refine yI_use h (fun y2 M1 h => ?_)
  refine And.intro (h.1) (And.intro (fun c => ?_) (fun c => ?_))
  · replace h := h.2.1 c
    exact yV_ret (r := .inl 0) h
  · replace h := h.2.2 c
    refine And.intro (rs_ob hs) ?_
    refine And.intro (h.1) (And.intro (fun c => ?_) (fun c => ?_))
    · replace h := h.2.1 c
      exact yV_ret (r := .inl 0) h
    · replace h := h.2.2 c
      refine And.intro (rs_ob hs) ?_
      refine And.intro (h.1) (And.intro (fun c => ?_) (fun c => ?_))
      · replace h := h.2.1 c
        exact yV_ret (r := .inl 0) h
      · replace h := h.2.2 c
        refine And.intro (rs_obv hs (by decide)) ?_
        obtain ⟨M3, hM3⟩ : ∃ z : xM, z = xup M1 59 48 (1 : Int) := ⟨_, rfl⟩
        refine xgo_st (e := e) (M := M3) (by subst hM3; rfl) ?_
        replace h := h M3 hM3
        refine And.intro (rs_ob hs) ?_
        obtain ⟨M4, hM4⟩ : ∃ z : xM, z = xup M3 59 50 (0 : Int) := ⟨_, rfl⟩
        refine xgo_st (e := e) (M := M4) (by subst hM4; rfl) ?_
        replace h := h M4 hM4
        exact h
theorem t_failure_34 {e : yE} {d : Nat} {x1 : Int} {M : xM} {Q : xM → Prop} (hs : RSh e) (h :
    (0 ≤ (M 59 43) ∧ (M 59 43) < 20) ∧ 
    ((rg x1 ∧ rg (M 75 (M 59 43))) ∧ (((M 75 (M 59 43)) ≤ x1 → 
      (Q M)) ∧ 
    (¬ ((M 75 (M 59 43)) ≤ x1) → 
      (R_tell e d x1 M (fun M1 => 
      R_failure_34 e d (x1 + 1) M1 Q)))))) : R_failure_34 e d x1 M Q := by
  refine xGo.in ?_
  refine And.intro (rs_ob hs) ?_
  refine And.intro (rs_ob hs) ?_
  refine And.intro (xi_ld (rs_16 hs) (h.1)) ?_
  replace h := h.2
  refine And.intro (⟨h.1.1, h.1.2⟩) (And.intro (fun c => ?_) (fun c => ?_))
  · replace h := h.2.1 c
    exact yV_ret (r := .inl 0) h
  · replace h := h.2.2 c
    refine And.intro ⟨Nat.le_of_ble_eq_true rfl, Nat.le_of_ble_eq_true rfl, rs_ob hs⟩ ?_
    refine yV_use h (fun _ M1 h => ?_)
    exact h
theorem t_failure {e : yE} {d : Nat} {M : xM} {Q : xM → Prop} (h : R_failure_0 e d  M Q) : R_failure e (d + 1)  M Q := h _
def R_leaf_0 (e : yE) (d : Nat) (x1 x2 x3 : Int) (M : xM) (Q : xM → Prop) : Prop := ∀ (o4 o5 o6 o7 o8 : Option xV), xGo xft xNf xmt xtr d 142 0 [some (.inr (some 59)), some (.inl x1), some (.inl x2), some (.inl x3), o4, o5, o6, o7, o8] [] (yS e M) (yV e Q)
def R_leaf_53 (e : yE) (d : Nat) (x1 x2 x3 x4 x5 s1 : Int) (M : xM) (Q : xM → Prop) : Prop := ∀ (o6 o7 o8 : Option xV), xGo xft xNf xmt xtr d 142 53 [some (.inr (some 59)), some (.inl x1), some (.inl x2), some (.inl x3), some (.inl x4), some (.inl x5), o6, o7, o8] [.inl s1, .inr (some 59)] (yS e M) (yV e Q)
def R_leaf_141 (e : yE) (d : Nat) (x1 x2 x3 : Int) (M : xM) (Q : xM → Prop) : Prop := ∀ (o4 o5 o6 o7 o8 : Option xV), xGo xft xNf xmt xtr d 142 141 [some (.inr (some 59)), some (.inl x1), some (.inl x2), some (.inl x3), o4, o5, o6, o7, o8] [] (yS e M) (yV e Q)
def R_leaf_152 (e : yE) (d : Nat) (x2 x3 x6 x7 : Int) (M : xM) (Q : xM → Prop) : Prop := ∀ (o1 o4 o5 o8 : Option xV), xGo xft xNf xmt xtr d 142 152 [some (.inr (some 59)), o1, some (.inl x2), some (.inl x3), o4, o5, some (.inl x6), some (.inl x7), o8] [] (yS e M) (yV e Q)
theorem t_leaf_0 {e : yE} {d : Nat} {x1 x2 x3 : Int} {M : xM} {Q : xM → Prop} (hs : RSh e) (h :
    (0 ≤ x1 ∧ x1 < 8000) ∧ 
    ((0 ≤ (((12 : Int) * (M 59 43)) + (M 83 x1)) ∧ (((12 : Int) * (M 59 43)) + (M 83 x1)) < 240) ∧ 
    (∀ M1 : xM, M1 = xup M 94 (4 : Int) (xor32 (M 94 (4 : Int)) (xshl32 (1 : Int) (M 83 x1))) → 
    ((rg (M 79 (((12 : Int) * (M 59 43)) + (M 83 x1)))) ∧ ((0 ≤ (M 79 (((12 : Int) * (M 59 43)) + (M 83 x1))) → 
      (R_leaf_53 e d x1 x2 x3 (M 83 x1) (M 79 (((12 : Int) * (M 59 43)) + (M 83 x1))) (1 : Int) M1 Q)) ∧ 
    (¬ (0 ≤ (M 79 (((12 : Int) * (M 59 43)) + (M 83 x1)))) → 
      (R_leaf_53 e d x1 x2 x3 (M 83 x1) (M 79 (((12 : Int) * (M 59 43)) + (M 83 x1))) (2 : Int) M1 Q))))))) : R_leaf_0 e d x1 x2 x3 M Q := by
  intro o4 o5 o6 o7 o8
  refine xGo.in ?_
  refine And.intro (rs_ob hs) ?_
  refine And.intro (xi_ld (rs_24 hs) (h.1)) ?_
  replace h := h.2
  refine And.intro (rs_ob hs) ?_
  refine And.intro (rs_ob hs) ?_
  refine And.intro (xi_ld (rs_20 hs) (h.1)) ?_
  replace h := h.2
  refine And.intro (rs_ob hs) ?_
  refine And.intro (rs_ob hs) ?_
  refine And.intro (xi_ld (rs_35 hs) (⟨by decide, by decide⟩)) ?_
  refine And.intro (xi_st (rs_35 hs) (⟨by decide, by decide⟩)) ?_
  obtain ⟨M1, hM1⟩ : ∃ z : xM, z = xup M 94 (4 : Int) (xor32 (M 94 (4 : Int)) (xshl32 (1 : Int) (M 83 x1))) := ⟨_, rfl⟩
  refine xgo_st (e := e) (M := M1) (by subst hM1; rfl) ?_
  replace h := h M1 hM1
  refine And.intro (h.1) (And.intro (fun c => ?_) (fun c => ?_))
  · replace h := h.2.1 c
    exact h _ _ _
  · replace h := h.2.2 c
    exact h _ _ _
theorem t_leaf_53 {e : yE} {d : Nat} {x1 x2 x3 x4 x5 s1 : Int} {M : xM} {Q : xM → Prop} (hs : RSh e) (h :
    R_countNode e d s1 M (fun y2 M1 => 
    (rg y2) ∧ ((y2 = 0 → 
      (Q M1)) ∧ 
    (¬ (y2 = 0) → 
      ((rg x5) ∧ ((0 ≤ x5 → 
        ((rg (M1 59 44)) ∧ (((M1 59 44) = 0 → 
          (R_leaf_141 e d x1 x2 x3 M1 Q)) ∧ 
        (¬ ((M1 59 44) = 0) → 
          ((0 ≤ (((16 : Int) * x1) + x5) ∧ (((16 : Int) * x1) + x5) < 128000) ∧ 
          ((0 ≤ (M1 85 (((16 : Int) * x1) + x5)) ∧ (M1 85 (((16 : Int) * x1) + x5)) < 1000) ∧ 
          ((0 ≤ (((12 : Int) * (M1 59 43)) + x4) ∧ (((12 : Int) * (M1 59 43)) + x4) < 240) ∧ 
          ((0 ≤ (((16 : Int) * x1) + (M1 80 (((12 : Int) * (M1 59 43)) + x4))) ∧ (((16 : Int) * x1) + (M1 80 (((12 : Int) * (M1 59 43)) + x4))) < 128000) ∧ 
          ((0 ≤ (M1 85 (((16 : Int) * x1) + (M1 80 (((12 : Int) * (M1 59 43)) + x4)))) ∧ (M1 85 (((16 : Int) * x1) + (M1 80 (((12 : Int) * (M1 59 43)) + x4)))) < 1000) ∧ 
          ((0 ≤ (M1 93 (M1 85 (((16 : Int) * x1) + x5))) ∧ (M1 93 (M1 85 (((16 : Int) * x1) + x5))) < 300) ∧ 
          ((0 ≤ (M1 93 (M1 85 (((16 : Int) * x1) + (M1 80 (((12 : Int) * (M1 59 43)) + x4))))) ∧ (M1 93 (M1 85 (((16 : Int) * x1) + (M1 80 (((12 : Int) * (M1 59 43)) + x4))))) < 300) ∧ 
          ((rg (M1 65 (M1 93 (M1 85 (((16 : Int) * x1) + x5)))) ∧ rg (M1 65 (M1 93 (M1 85 (((16 : Int) * x1) + (M1 80 (((12 : Int) * (M1 59 43)) + x4))))))) ∧ (((M1 65 (M1 93 (M1 85 (((16 : Int) * x1) + (M1 80 (((12 : Int) * (M1 59 43)) + x4)))))) ≤ (M1 65 (M1 93 (M1 85 (((16 : Int) * x1) + x5)))) → 
            (R_leaf_141 e d x1 x2 x3 M1 Q)) ∧ 
          (¬ ((M1 65 (M1 93 (M1 85 (((16 : Int) * x1) + (M1 80 (((12 : Int) * (M1 59 43)) + x4)))))) ≤ (M1 65 (M1 93 (M1 85 (((16 : Int) * x1) + x5))))) → 
            (Q M1))))))))))))))) ∧ 
      (¬ (0 ≤ x5) → 
        (Q M1)))))))) : R_leaf_53 e d x1 x2 x3 x4 x5 s1 M Q := by
  intro o6 o7 o8
  refine xGo.in ?_
  refine And.intro ⟨Nat.le_of_ble_eq_true rfl, Nat.le_of_ble_eq_true rfl, rs_ob hs⟩ ?_
  refine yI_use h (fun y2 M1 h => ?_)
  refine And.intro (h.1) (And.intro (fun c => ?_) (fun c => ?_))
  · replace h := h.2.1 c
    exact yV_ret (r := .inl 0) h
  · replace h := h.2.2 c
    refine And.intro (h.1) (And.intro (fun c => ?_) (fun c => ?_))
    · replace h := h.2.1 c
      refine And.intro (rs_ob hs) ?_
      refine And.intro (h.1) (And.intro (fun c => ?_) (fun c => ?_))
      · replace h := h.2.1 c
        exact h _ _ _ _ _
      · replace h := h.2.2 c
        refine And.intro (rs_ob hs) ?_
        refine And.intro (rs_ob hs) ?_
        refine And.intro (xi_ld (rs_26 hs) (h.1)) ?_
        replace h := h.2
        refine And.intro (xi_ld (rs_34 hs) (h.1)) ?_
        replace h := h.2
        refine And.intro (rs_ob hs) ?_
        refine And.intro (rs_ob hs) ?_
        refine And.intro (rs_ob hs) ?_
        refine And.intro (rs_ob hs) ?_
        refine And.intro (xi_ld (rs_21 hs) (h.1)) ?_
        replace h := h.2
        refine And.intro (xi_ld (rs_26 hs) (h.1)) ?_
        replace h := h.2
        refine And.intro (xi_ld (rs_34 hs) (h.1)) ?_
        replace h := h.2
        refine And.intro (rs_ob hs) ?_
        refine And.intro (xi_ld (rs_6 hs) (h.1)) ?_
        replace h := h.2
        refine And.intro (rs_ob hs) ?_
        refine And.intro (xi_ld (rs_6 hs) (h.1)) ?_
        replace h := h.2
        refine And.intro (⟨h.1.1, h.1.2⟩) (And.intro (fun c => ?_) (fun c => ?_))
        · replace h := h.2.1 c
          exact h _ _ _ _ _
        · replace h := h.2.2 c
          exact yV_ret (r := .inl 0) h
    · replace h := h.2.2 c
      exact yV_ret (r := .inl 0) h
theorem t_leaf_141 {e : yE} {d : Nat} {x1 x2 x3 : Int} {M : xM} {Q : xM → Prop} (hs : RSh e) (h :
    R_leaf_152 e d x2 x3 (M 59 31) (x1 + (1 : Int)) M Q) : R_leaf_141 e d x1 x2 x3 M Q := by
  intro o4 o5 o6 o7 o8
  refine xGo.in ?_
  refine And.intro (rs_ob hs) ?_
  exact h _ _ _ _
theorem t_leaf_152 {e : yE} {d : Nat} {x2 x3 x6 x7 : Int} {M : xM} {Q : xM → Prop} (hs : RSh e) (h :
    (rg x7 ∧ rg x6) ∧ ((x6 ≤ x7 → 
      (R_node e d x6 x2 x3 M (fun M1 => 
      Q M1))) ∧ 
    (¬ (x6 ≤ x7) → 
      ((0 ≤ x7 ∧ x7 < 8000) ∧ 
      (R_pushRow e d (M 83 x7) x3 M (fun y3 M2 => 
      R_copyRow e d x7 y3 x3 M2 (fun M4 => 
      R_leaf_152 e d x2 x3 x6 (x7 + 1) M4 Q))))))) : R_leaf_152 e d x2 x3 x6 x7 M Q := by
  intro o1 o4 o5 o8
  refine xGo.in ?_
  refine And.intro (⟨h.1.1, h.1.2⟩) (And.intro (fun c => ?_) (fun c => ?_))
  · replace h := h.2.1 c
    refine And.intro ⟨Nat.le_of_ble_eq_true rfl, Nat.le_of_ble_eq_true rfl, rs_ob hs⟩ ?_
    refine yV_use h (fun _ M1 h => ?_)
    exact yV_ret (r := .inl 0) h
  · replace h := h.2.2 c
    refine And.intro (rs_ob hs) ?_
    refine And.intro (xi_ld (rs_24 hs) (h.1)) ?_
    replace h := h.2
    refine And.intro ⟨Nat.le_of_ble_eq_true rfl, Nat.le_of_ble_eq_true rfl, rs_ob hs⟩ ?_
    refine yI_use h (fun y3 M2 h => ?_)
    refine And.intro ⟨Nat.le_of_ble_eq_true rfl, Nat.le_of_ble_eq_true rfl, rs_ob hs⟩ ?_
    refine yV_use h (fun _ M4 h => ?_)
    exact h _ _ _ _
theorem t_leaf {e : yE} {d : Nat} {x1 : Int} {x2 : Int} {x3 : Int} {M : xM} {Q : xM → Prop} (h : R_leaf_0 e d x1 x2 x3 M Q) : R_leaf e (d + 1) x1 x2 x3 M Q := h _ _ _ _ _
def R_test_0 (e : yE) (d : Nat) (x1 x2 x3 x4 : Int) (M : xM) (Q : xM → Prop) : Prop := ∀ (o5 o6 o7 o8 o9 o10 o11 o12 o13 o14 o15 o16 : Option xV), xGo xft xNf xmt xtr d 143 0 [some (.inr (some 59)), some (.inl x1), some (.inl x2), some (.inl x3), some (.inl x4), o5, o6, o7, o8, o9, o10, o11, o12, o13, o14, o15, o16] [] (yS e M) (yV e Q)
def R_test_40 (e : yE) (d : Nat) (x1 x2 x3 x4 x5 x6 x7 x8 x9 x10 x11 x12 : Int) (M : xM) (Q : xM → Prop) : Prop := ∀ (o13 o14 o15 o16 : Option xV), xGo xft xNf xmt xtr d 143 40 [some (.inr (some 59)), some (.inl x1), some (.inl x2), some (.inl x3), some (.inl x4), some (.inl x5), some (.inl x6), some (.inl x7), some (.inl x8), some (.inl x9), some (.inl x10), some (.inl x11), some (.inl x12), o13, o14, o15, o16] [] (yS e M) (yV e Q)
def R_test_61 (e : yE) (d : Nat) (x1 x2 x3 x4 x5 x6 x7 x8 x9 x10 x11 x12 x13 x14 : Int) (M : xM) (Q : xM → Prop) : Prop := ∀ (o15 o16 : Option xV), xGo xft xNf xmt xtr d 143 61 [some (.inr (some 59)), some (.inl x1), some (.inl x2), some (.inl x3), some (.inl x4), some (.inl x5), some (.inl x6), some (.inl x7), some (.inl x8), some (.inl x9), some (.inl x10), some (.inl x11), some (.inl x12), some (.inl x13), some (.inl x14), o15, o16] [] (yS e M) (yV e Q)
def R_test_104 (e : yE) (d : Nat) (x1 x2 x3 x4 x5 x6 x7 x8 x9 x10 x11 x12 x13 x14 x15 s0 : Int) (M : xM) (Q : xM → Prop) : Prop := ∀ (o16 : Option xV), xGo xft xNf xmt xtr d 143 104 [some (.inr (some 59)), some (.inl x1), some (.inl x2), some (.inl x3), some (.inl x4), some (.inl x5), some (.inl x6), some (.inl x7), some (.inl x8), some (.inl x9), some (.inl x10), some (.inl x11), some (.inl x12), some (.inl x13), some (.inl x14), some (.inl x15), o16] [.inl s0] (yS e M) (yV e Q)
def R_test_128 (e : yE) (d : Nat) (x1 x2 x3 x4 x5 x6 x7 x8 x9 x11 x12 x14 x15 : Int) (M : xM) (Q : xM → Prop) : Prop := ∀ (o10 o13 o16 : Option xV), xGo xft xNf xmt xtr d 143 128 [some (.inr (some 59)), some (.inl x1), some (.inl x2), some (.inl x3), some (.inl x4), some (.inl x5), some (.inl x6), some (.inl x7), some (.inl x8), some (.inl x9), o10, some (.inl x11), some (.inl x12), o13, some (.inl x14), some (.inl x15), o16] [] (yS e M) (yV e Q)
def R_test_185 (e : yE) (d : Nat) (x1 x2 x3 x4 x5 x6 x7 x8 x9 x10 x11 x13 : Int) (M : xM) (Q : xM → Prop) : Prop := ∀ (o12 o14 o15 o16 : Option xV), xGo xft xNf xmt xtr d 143 185 [some (.inr (some 59)), some (.inl x1), some (.inl x2), some (.inl x3), some (.inl x4), some (.inl x5), some (.inl x6), some (.inl x7), some (.inl x8), some (.inl x9), some (.inl x10), some (.inl x11), o12, some (.inl x13), o14, o15, o16] [] (yS e M) (yV e Q)
def R_test_205 (e : yE) (d : Nat) (x1 x2 x3 x4 x5 x6 x7 x8 x12 : Int) (M : xM) (Q : xM → Prop) : Prop := ∀ (o9 o10 o11 o13 o14 o15 o16 : Option xV), xGo xft xNf xmt xtr d 143 205 [some (.inr (some 59)), some (.inl x1), some (.inl x2), some (.inl x3), some (.inl x4), some (.inl x5), some (.inl x6), some (.inl x7), some (.inl x8), o9, o10, o11, some (.inl x12), o13, o14, o15, o16] [] (yS e M) (yV e Q)
def R_test_222 (e : yE) (d : Nat) (x1 x2 x3 x4 x5 x7 x12 : Int) (M : xM) (Q : xM → Prop) : Prop := ∀ (o6 o8 o9 o10 o11 o13 o14 o15 o16 : Option xV), xGo xft xNf xmt xtr d 143 222 [some (.inr (some 59)), some (.inl x1), some (.inl x2), some (.inl x3), some (.inl x4), some (.inl x5), o6, some (.inl x7), o8, o9, o10, o11, some (.inl x12), o13, o14, o15, o16] [] (yS e M) (yV e Q)
def R_test_241 (e : yE) (d : Nat) (x1 x2 x3 x4 x5 x7 : Int) (M : xM) (Q : xM → Prop) : Prop := ∀ (o6 o8 o9 o10 o11 o12 o13 o14 o15 o16 : Option xV), xGo xft xNf xmt xtr d 143 241 [some (.inr (some 59)), some (.inl x1), some (.inl x2), some (.inl x3), some (.inl x4), some (.inl x5), o6, some (.inl x7), o8, o9, o10, o11, o12, o13, o14, o15, o16] [] (yS e M) (yV e Q)
theorem t_test_0 {e : yE} {d : Nat} {x1 x2 x3 x4 : Int} {M : xM} {Q : xM → Prop} (hs : RSh e) (h :
    (0 ≤ (x3 + x2) ∧ (x3 + x2) < 100000) ∧ 
    ((0 ≤ (M 87 (x3 + x2)) ∧ (M 87 (x3 + x2)) < 1000) ∧ 
    (R_test_40 e d x1 x2 x3 x4 (M 87 (x3 + x2)) (M 88 (M 87 (x3 + x2))) (M 59 31) (0 : Int) (-1 : Int) (1 : Int) (1 : Int) (0 : Int) M Q))) : R_test_0 e d x1 x2 x3 x4 M Q := by
  intro o5 o6 o7 o8 o9 o10 o11 o12 o13 o14 o15 o16
  refine xGo.in ?_
  refine And.intro (rs_ob hs) ?_
  refine And.intro (xi_ld (rs_28 hs) (h.1)) ?_
  replace h := h.2
  refine And.intro (rs_ob hs) ?_
  refine And.intro (xi_ld (rs_29 hs) (h.1)) ?_
  replace h := h.2
  refine And.intro (rs_ob hs) ?_
  exact h _ _ _ _
theorem t_test_40 {e : yE} {d : Nat} {x1 x2 x3 x4 x5 x6 x7 x8 x9 x10 x11 x12 : Int} {M : xM} {Q : xM → Prop} (hs : RSh e) (h :
    (rg x10) ∧ ((x10 = 0 → 
      (R_test_205 e d x1 x2 x3 x4 x5 x6 x7 x8 x12 M Q)) ∧ 
    (¬ (x10 = 0) → 
      ((rg (M 59 45)) ∧ ((¬ (M 59 45) = 0 → 
        (R_test_205 e d x1 x2 x3 x4 x5 x6 x7 x8 x12 M Q)) ∧ 
      (¬ (¬ (M 59 45) = 0) → 
        (R_test_61 e d x1 x2 x3 x4 x5 x6 x7 x8 x9 (0 : Int) x11 x12 (0 : Int) x1 M Q))))))) : R_test_40 e d x1 x2 x3 x4 x5 x6 x7 x8 x9 x10 x11 x12 M Q := by
  intro o13 o14 o15 o16
  refine xGo.in ?_
  refine And.intro (h.1) (And.intro (fun c => ?_) (fun c => ?_))
  · replace h := h.2.1 c
    exact h _ _ _ _ _ _ _
  · replace h := h.2.2 c
    refine And.intro (rs_ob hs) ?_
    refine And.intro (h.1) (And.intro (fun c => ?_) (fun c => ?_))
    · replace h := h.2.1 c
      exact h _ _ _ _ _ _ _
    · replace h := h.2.2 c
      exact h _ _
theorem t_test_61 {e : yE} {d : Nat} {x1 x2 x3 x4 x5 x6 x7 x8 x9 x10 x11 x12 x13 x14 : Int} {M : xM} {Q : xM → Prop} (hs : RSh e) (h :
    (rg x14 ∧ rg x7) ∧ ((x7 ≤ x14 → 
      ((rg x10) ∧ ((x10 = 0 → 
        (R_test_40 e d x1 x2 x3 x4 x5 x6 x7 x8 x9 x10 x11 x12 M Q)) ∧ 
      (¬ (x10 = 0) → 
        ((rg (M 59 44)) ∧ (((M 59 44) = 0 → 
          (R_test_185 e d x1 x2 x3 x4 x5 x6 x7 (x8 + 1) x13 x10 (0 : Int) x13 M Q)) ∧ 
        (¬ ((M 59 44) = 0) → 
          ((0 ≤ x5 ∧ x5 < 1000) ∧ 
          ((0 ≤ (M 93 x5) ∧ (M 93 x5) < 300) ∧ 
          ((rg (M 65 (M 93 x5)) ∧ rg x13) ∧ ((¬ (M 65 (M 93 x5)) = x13 → 
            (R_test_40 e d x1 x2 x3 x4 x5 x6 x7 (x8 + 1) x13 x10 (0 : Int) x12 M Q)) ∧ 
          (¬ (¬ (M 65 (M 93 x5)) = x13) → 
            (R_test_185 e d x1 x2 x3 x4 x5 x6 x7 (x8 + 1) x13 x10 (0 : Int) x13 M Q))))))))))))) ∧ 
    (¬ (x7 ≤ x14) → 
      (R_cell e d x14 x2 M (fun y2 M1 => 
      (rg y2) ∧ ((y2 < 0 → 
        (R_test_104 e d x1 x2 x3 x4 x5 x6 x7 x8 x9 x10 x11 x12 x13 x14 y2 (0 : Int) M1 Q)) ∧ 
      (¬ (y2 < 0) → 
        ((rg x11) ∧ ((¬ x11 = 0 → 
          (R_test_104 e d x1 x2 x3 x4 x5 x6 x7 x8 x9 x10 x11 x12 x13 x14 y2 (1 : Int) M1 Q)) ∧ 
        (¬ (¬ x11 = 0) → 
          ((0 ≤ y2 ∧ y2 < 300) ∧ 
          ((rg (M1 70 y2) ∧ rg x9) ∧ (((M1 70 y2) ≤ x9 → 
            (R_test_104 e d x1 x2 x3 x4 x5 x6 x7 x8 x9 x10 x11 x12 x13 x14 y2 (0 : Int) M1 Q)) ∧ 
          (¬ ((M1 70 y2) ≤ x9) → 
            (R_test_104 e d x1 x2 x3 x4 x5 x6 x7 x8 x9 x10 x11 x12 x13 x14 y2 (1 : Int) M1 Q))))))))))))))) : R_test_61 e d x1 x2 x3 x4 x5 x6 x7 x8 x9 x10 x11 x12 x13 x14 M Q := by
  intro o15 o16
  refine xGo.in ?_
  refine And.intro (⟨h.1.1, h.1.2⟩) (And.intro (fun c => ?_) (fun c => ?_))
  · replace h := h.2.1 c
    refine And.intro (h.1) (And.intro (fun c => ?_) (fun c => ?_))
    · replace h := h.2.1 c
      exact h _ _ _ _
    · replace h := h.2.2 c
      refine And.intro (rs_ob hs) ?_
      refine And.intro (h.1) (And.intro (fun c => ?_) (fun c => ?_))
      · replace h := h.2.1 c
        exact h _ _ _ _
      · replace h := h.2.2 c
        refine And.intro (rs_ob hs) ?_
        refine And.intro (rs_ob hs) ?_
        refine And.intro (xi_ld (rs_34 hs) (h.1)) ?_
        replace h := h.2
        refine And.intro (xi_ld (rs_6 hs) (h.1)) ?_
        replace h := h.2
        refine And.intro (⟨h.1.1, h.1.2⟩) (And.intro (fun c => ?_) (fun c => ?_))
        · replace h := h.2.1 c
          exact h _ _ _ _
        · replace h := h.2.2 c
          exact h _ _ _ _
  · replace h := h.2.2 c
    refine And.intro ⟨Nat.le_of_ble_eq_true rfl, Nat.le_of_ble_eq_true rfl, rs_ob hs⟩ ?_
    refine yI_use h (fun y2 M1 h => ?_)
    refine And.intro (h.1) (And.intro (fun c => ?_) (fun c => ?_))
    · replace h := h.2.1 c
      exact h _
    · replace h := h.2.2 c
      refine And.intro (h.1) (And.intro (fun c => ?_) (fun c => ?_))
      · replace h := h.2.1 c
        exact h _
      · replace h := h.2.2 c
        refine And.intro (rs_ob hs) ?_
        refine And.intro (xi_ld (rs_11 hs) (h.1)) ?_
        replace h := h.2
        refine And.intro (⟨h.1.1, h.1.2⟩) (And.intro (fun c => ?_) (fun c => ?_))
        · replace h := h.2.1 c
          exact h _
        · replace h := h.2.2 c
          exact h _
theorem t_test_104 {e : yE} {d : Nat} {x1 x2 x3 x4 x5 x6 x7 x8 x9 x10 x11 x12 x13 x14 x15 s0 : Int} {M : xM} {Q : xM → Prop} (hs : RSh e) (h :
    (rg s0) ∧ ((s0 = 0 → 
      (R_test_61 e d x1 x2 x3 x4 x5 x6 x7 x8 x9 x10 x11 x12 x13 (x14 + 1) M Q)) ∧ 
    (¬ (s0 = 0) → 
      ((rg x10) ∧ ((x10 = 0 → 
        (R_test_128 e d x1 x2 x3 x4 x5 x6 x7 x8 x9 x11 x12 x14 x15 M Q)) ∧ 
      (¬ (x10 = 0) → 
        ((0 ≤ x15 ∧ x15 < 300) ∧ 
        ((rg (M 70 x15) ∧ rg x13) ∧ ((x13 ≤ (M 70 x15) → 
          (R_test_61 e d x1 x2 x3 x4 x5 x6 x7 x8 x9 x10 x11 x12 x13 (x14 + 1) M Q)) ∧ 
        (¬ (x13 ≤ (M 70 x15)) → 
          (R_test_128 e d x1 x2 x3 x4 x5 x6 x7 x8 x9 x11 x12 x14 x15 M Q))))))))))) : R_test_104 e d x1 x2 x3 x4 x5 x6 x7 x8 x9 x10 x11 x12 x13 x14 x15 s0 M Q := by
  intro o16
  refine xGo.in ?_
  refine And.intro (h.1) (And.intro (fun c => ?_) (fun c => ?_))
  · replace h := h.2.1 c
    exact h _ _
  · replace h := h.2.2 c
    refine And.intro (h.1) (And.intro (fun c => ?_) (fun c => ?_))
    · replace h := h.2.1 c
      exact h _ _ _
    · replace h := h.2.2 c
      refine And.intro (rs_ob hs) ?_
      refine And.intro (xi_ld (rs_11 hs) (h.1)) ?_
      replace h := h.2
      refine And.intro (⟨h.1.1, h.1.2⟩) (And.intro (fun c => ?_) (fun c => ?_))
      · replace h := h.2.1 c
        exact h _ _
      · replace h := h.2.2 c
        exact h _ _ _
theorem t_test_128 {e : yE} {d : Nat} {x1 x2 x3 x4 x5 x6 x7 x8 x9 x11 x12 x14 x15 : Int} {M : xM} {Q : xM → Prop} (hs : RSh e) (h :
    (0 ≤ x15 ∧ x15 < 300) ∧ 
    (R_test_61 e d x1 x2 x3 x4 x5 x6 x7 x8 x9 (1 : Int) x11 x12 (M 70 x15) (x14 + 1) M Q)) : R_test_128 e d x1 x2 x3 x4 x5 x6 x7 x8 x9 x11 x12 x14 x15 M Q := by
  intro o10 o13 o16
  refine xGo.in ?_
  refine And.intro (rs_ob hs) ?_
  refine And.intro (xi_ld (rs_11 hs) (h.1)) ?_
  replace h := h.2
  exact h _ _
theorem t_test_185 {e : yE} {d : Nat} {x1 x2 x3 x4 x5 x6 x7 x8 x9 x10 x11 x13 : Int} {M : xM} {Q : xM → Prop} (hs : RSh e) (h :
    R_branch e d x1 x7 x2 x13 (0 : Int) x3 x4 M (fun M1 => 
    R_test_40 e d x1 x2 x3 x4 x5 x6 x7 x8 x9 x10 x11 (1 : Int) M1 Q)) : R_test_185 e d x1 x2 x3 x4 x5 x6 x7 x8 x9 x10 x11 x13 M Q := by
  intro o12 o14 o15 o16
  refine xGo.in ?_
  refine And.intro ⟨Nat.le_of_ble_eq_true rfl, Nat.le_of_ble_eq_true rfl, rs_ob hs⟩ ?_
  refine yV_use h (fun _ M1 h => ?_)
  exact h _ _ _ _
theorem t_test_205 {e : yE} {d : Nat} {x1 x2 x3 x4 x5 x6 x7 x8 x12 : Int} {M : xM} {Q : xM → Prop} (hs : RSh e) (h :
    (rg x6) ∧ ((x6 = 0 → 
      (R_test_222 e d x1 x2 x3 x4 x5 x7 x12 M Q)) ∧ 
    (¬ (x6 = 0) → 
      ((0 ≤ x6 ∧ x6 < 8) ∧ 
      ((rg x8 ∧ rg (M 60 x6)) ∧ (((M 60 x6) ≤ x8 → 
        ((0 ≤ x5 ∧ x5 < 1000) ∧ 
        (∀ M1 : xM, M1 = xup M 89 x5 (0 : Int) → 
        (Q M1)))) ∧ 
      (¬ ((M 60 x6) ≤ x8) → 
        (R_test_222 e d x1 x2 x3 x4 x5 x7 x12 M Q)))))))) : R_test_205 e d x1 x2 x3 x4 x5 x6 x7 x8 x12 M Q := by
  intro o9 o10 o11 o13 o14 o15 o16
  refine xGo.in ?_
  refine And.intro (h.1) (And.intro (fun c => ?_) (fun c => ?_))
  · replace h := h.2.1 c
    exact h _ _ _ _ _ _ _ _ _
  · replace h := h.2.2 c
    refine And.intro (rs_ob hs) ?_
    refine And.intro (xi_ld (rs_1 hs) (h.1)) ?_
    replace h := h.2
    refine And.intro (⟨h.1.1, h.1.2⟩) (And.intro (fun c => ?_) (fun c => ?_))
    · replace h := h.2.1 c
      refine And.intro (rs_ob hs) ?_
      refine And.intro (xi_stv (rs_30 hs) (h.1) (by decide)) ?_
      replace h := h.2
      obtain ⟨M1, hM1⟩ : ∃ z : xM, z = xup M 89 x5 (0 : Int) := ⟨_, rfl⟩
      refine xgo_st (e := e) (M := M1) (by subst hM1; rfl) ?_
      replace h := h M1 hM1
      exact yV_ret (r := .inl 0) h
    · replace h := h.2.2 c
      exact h _ _ _ _ _ _ _ _ _
theorem t_test_222 {e : yE} {d : Nat} {x1 x2 x3 x4 x5 x7 x12 : Int} {M : xM} {Q : xM → Prop} (hs : RSh e) (h :
    (rg (M 59 45)) ∧ ((¬ (M 59 45) = 0 → 
      ((0 ≤ x5 ∧ x5 < 1000) ∧ 
      (∀ M1 : xM, M1 = xup M 89 x5 (0 : Int) → 
      (Q M1)))) ∧ 
    (¬ (¬ (M 59 45) = 0) → 
      ((rg (M 59 44)) ∧ (((M 59 44) = 0 → 
        (R_test_241 e d x1 x2 x3 x4 x5 x7 M Q)) ∧ 
      (¬ ((M 59 44) = 0) → 
        ((rg x12) ∧ ((¬ x12 = 0 → 
          ((0 ≤ x5 ∧ x5 < 1000) ∧ 
          (∀ M2 : xM, M2 = xup M 89 x5 (0 : Int) → 
          (Q M2)))) ∧ 
        (¬ (¬ x12 = 0) → 
          (R_test_241 e d x1 x2 x3 x4 x5 x7 M Q)))))))))) : R_test_222 e d x1 x2 x3 x4 x5 x7 x12 M Q := by
  intro o6 o8 o9 o10 o11 o13 o14 o15 o16
  refine xGo.in ?_
  refine And.intro (rs_ob hs) ?_
  refine And.intro (h.1) (And.intro (fun c => ?_) (fun c => ?_))
  · replace h := h.2.1 c
    refine And.intro (rs_ob hs) ?_
    refine And.intro (xi_stv (rs_30 hs) (h.1) (by decide)) ?_
    replace h := h.2
    obtain ⟨M1, hM1⟩ : ∃ z : xM, z = xup M 89 x5 (0 : Int) := ⟨_, rfl⟩
    refine xgo_st (e := e) (M := M1) (by subst hM1; rfl) ?_
    replace h := h M1 hM1
    exact yV_ret (r := .inl 0) h
  · replace h := h.2.2 c
    refine And.intro (rs_ob hs) ?_
    refine And.intro (h.1) (And.intro (fun c => ?_) (fun c => ?_))
    · replace h := h.2.1 c
      exact h _ _ _ _ _ _ _ _ _ _
    · replace h := h.2.2 c
      refine And.intro (h.1) (And.intro (fun c => ?_) (fun c => ?_))
      · replace h := h.2.1 c
        refine And.intro (rs_ob hs) ?_
        refine And.intro (xi_stv (rs_30 hs) (h.1) (by decide)) ?_
        replace h := h.2
        obtain ⟨M2, hM2⟩ : ∃ z : xM, z = xup M 89 x5 (0 : Int) := ⟨_, rfl⟩
        refine xgo_st (e := e) (M := M2) (by subst hM2; rfl) ?_
        replace h := h M2 hM2
        exact yV_ret (r := .inl 0) h
      · replace h := h.2.2 c
        exact h _ _ _ _ _ _ _ _ _ _
theorem t_test_241 {e : yE} {d : Nat} {x1 x2 x3 x4 x5 x7 : Int} {M : xM} {Q : xM → Prop} (hs : RSh e) (h :
    R_leastOther e d x1 x7 x2 M (fun y2 M1 => 
    R_branch e d x1 x7 x2 y2 (1 : Int) x3 x4 M1 (fun M3 => 
    (0 ≤ x5 ∧ x5 < 1000) ∧ 
    (∀ M4 : xM, M4 = xup M3 89 x5 (0 : Int) → 
    (Q M4))))) : R_test_241 e d x1 x2 x3 x4 x5 x7 M Q := by
  intro o6 o8 o9 o10 o11 o12 o13 o14 o15 o16
  refine xGo.in ?_
  refine And.intro ⟨Nat.le_of_ble_eq_true rfl, Nat.le_of_ble_eq_true rfl, rs_ob hs⟩ ?_
  refine yI_use h (fun y2 M1 h => ?_)
  refine And.intro ⟨Nat.le_of_ble_eq_true rfl, Nat.le_of_ble_eq_true rfl, rs_ob hs⟩ ?_
  refine yV_use h (fun _ M3 h => ?_)
  refine And.intro (rs_ob hs) ?_
  refine And.intro (xi_stv (rs_30 hs) (h.1) (by decide)) ?_
  replace h := h.2
  obtain ⟨M4, hM4⟩ : ∃ z : xM, z = xup M3 89 x5 (0 : Int) := ⟨_, rfl⟩
  refine xgo_st (e := e) (M := M4) (by subst hM4; rfl) ?_
  replace h := h M4 hM4
  exact yV_ret (r := .inl 0) h
theorem t_test {e : yE} {d : Nat} {x1 : Int} {x2 : Int} {x3 : Int} {x4 : Int} {M : xM} {Q : xM → Prop} (h : R_test_0 e d x1 x2 x3 x4 M Q) : R_test e (d + 1) x1 x2 x3 x4 M Q := h _ _ _ _ _ _ _ _ _ _ _ _
def R_leastOther_0 (e : yE) (d : Nat) (x1 x2 x3 : Int) (M : xM) (Q : Int → xM → Prop) : Prop := ∀ (o4 o5 o6 : Option xV), xGo xft xNf xmt xtr d 144 0 [some (.inr (some 59)), some (.inl x1), some (.inl x2), some (.inl x3), o4, o5, o6] [] (yS e M) (yI e Q)
def R_leastOther_6 (e : yE) (d : Nat) (x1 x2 x3 x4 x5 : Int) (M : xM) (Q : Int → xM → Prop) : Prop := ∀ (o6 : Option xV), xGo xft xNf xmt xtr d 144 6 [some (.inr (some 59)), some (.inl x1), some (.inl x2), some (.inl x3), some (.inl x4), some (.inl x5), o6] [] (yS e M) (yI e Q)
def R_leastOther_17 (e : yE) (d : Nat) (x1 x2 x3 x4 x5 x6 : Int) (M : xM) (Q : Int → xM → Prop) : Prop := xGo xft xNf xmt xtr d 144 17 [some (.inr (some 59)), some (.inl x1), some (.inl x2), some (.inl x3), some (.inl x4), some (.inl x5), some (.inl x6)] [] (yS e M) (yI e Q)
theorem t_leastOther_0 {e : yE} {d : Nat} {x1 x2 x3 : Int} {M : xM} {Q : Int → xM → Prop} (hs : RSh e) (h :
    R_leastOther_6 e d x1 x2 x3 (0 : Int) (1 : Int) M Q) : R_leastOther_0 e d x1 x2 x3 M Q := by
  intro o4 o5 o6
  refine xGo.in ?_
  exact h _
theorem t_leastOther_6 {e : yE} {d : Nat} {x1 x2 x3 x4 x5 : Int} {M : xM} {Q : Int → xM → Prop} (hs : RSh e) (h :
    (rg x5) ∧ ((x5 = 0 → 
      (Q x4 M)) ∧ 
    (¬ (x5 = 0) → 
      (R_leastOther_17 e d x1 x2 x3 x4 (0 : Int) x1 M Q)))) : R_leastOther_6 e d x1 x2 x3 x4 x5 M Q := by
  intro o6
  refine xGo.in ?_
  refine And.intro (h.1) (And.intro (fun c => ?_) (fun c => ?_))
  · replace h := h.2.1 c
    exact yI_ret h
  · replace h := h.2.2 c
    exact h
theorem t_leastOther_17 {e : yE} {d : Nat} {x1 x2 x3 x4 x5 x6 : Int} {M : xM} {Q : Int → xM → Prop} (hs : RSh e) (h :
    (rg x6 ∧ rg x2) ∧ ((x2 ≤ x6 → 
      ((rg x5) ∧ ((x5 = 0 → 
        (R_leastOther_6 e d x1 x2 x3 x4 x5 M Q)) ∧ 
      (¬ (x5 = 0) → 
        (R_leastOther_6 e d x1 x2 x3 (x4 + (1 : Int)) x5 M Q))))) ∧ 
    (¬ (x2 ≤ x6) → 
      ((rg x5) ∧ ((¬ x5 = 0 → 
        (R_leastOther_17 e d x1 x2 x3 x4 (1 : Int) (x6 + 1) M Q)) ∧ 
      (¬ (¬ x5 = 0) → 
        (R_cell e d x6 x3 M (fun y2 M1 => 
        (rg y2) ∧ ((y2 < 0 → 
          (R_leastOther_17 e d x1 x2 x3 x4 (0 : Int) (x6 + 1) M1 Q)) ∧ 
        (¬ (y2 < 0) → 
          (R_cell e d x6 x3 M1 (fun y4 M3 => 
          (0 ≤ y4 ∧ y4 < 300) ∧ 
          ((rg (M3 70 y4) ∧ rg x4) ∧ ((¬ (M3 70 y4) = x4 → 
            (R_leastOther_17 e d x1 x2 x3 x4 (0 : Int) (x6 + 1) M3 Q)) ∧ 
          (¬ (¬ (M3 70 y4) = x4) → 
            (R_leastOther_17 e d x1 x2 x3 x4 (1 : Int) (x6 + 1) M3 Q)))))))))))))))) : R_leastOther_17 e d x1 x2 x3 x4 x5 x6 M Q := by
  refine xGo.in ?_
  refine And.intro (⟨h.1.1, h.1.2⟩) (And.intro (fun c => ?_) (fun c => ?_))
  · replace h := h.2.1 c
    refine And.intro (h.1) (And.intro (fun c => ?_) (fun c => ?_))
    · replace h := h.2.1 c
      exact h _
    · replace h := h.2.2 c
      exact h _
  · replace h := h.2.2 c
    refine And.intro (h.1) (And.intro (fun c => ?_) (fun c => ?_))
    · replace h := h.2.1 c
      exact h
    · replace h := h.2.2 c
      refine And.intro ⟨Nat.le_of_ble_eq_true rfl, Nat.le_of_ble_eq_true rfl, rs_ob hs⟩ ?_
      refine yI_use h (fun y2 M1 h => ?_)
      refine And.intro (h.1) (And.intro (fun c => ?_) (fun c => ?_))
      · replace h := h.2.1 c
        exact h
      · replace h := h.2.2 c
        refine And.intro (rs_ob hs) ?_
        refine And.intro ⟨Nat.le_of_ble_eq_true rfl, Nat.le_of_ble_eq_true rfl, rs_ob hs⟩ ?_
        refine yI_use h (fun y4 M3 h => ?_)
        refine And.intro (xi_ld (rs_11 hs) (h.1)) ?_
        replace h := h.2
        refine And.intro (⟨h.1.1, h.1.2⟩) (And.intro (fun c => ?_) (fun c => ?_))
        · replace h := h.2.1 c
          exact h
        · replace h := h.2.2 c
          exact h
theorem t_leastOther {e : yE} {d : Nat} {x1 : Int} {x2 : Int} {x3 : Int} {M : xM} {Q : Int → xM → Prop} (h : R_leastOther_0 e d x1 x2 x3 M Q) : R_leastOther e (d + 1) x1 x2 x3 M Q := h _ _ _
def R_branch_0 (e : yE) (d : Nat) (x1 x2 x3 x4 x5 x6 x7 : Int) (M : xM) (Q : xM → Prop) : Prop := ∀ (o8 o9 o10 o11 o12 o13 o14 o15 o16 : Option xV), xGo xft xNf xmt xtr d 145 0 [some (.inr (some 59)), some (.inl x1), some (.inl x2), some (.inl x3), some (.inl x4), some (.inl x5), some (.inl x6), some (.inl x7), o8, o9, o10, o11, o12, o13, o14, o15, o16] [] (yS e M) (yV e Q)
def R_branch_42 (e : yE) (d : Nat) (x1 x2 x3 x4 x5 x6 x7 x8 x9 s0 : Int) (M : xM) (Q : xM → Prop) : Prop := ∀ (o10 o11 o12 o13 o14 o15 o16 : Option xV), xGo xft xNf xmt xtr d 145 42 [some (.inr (some 59)), some (.inl x1), some (.inl x2), some (.inl x3), some (.inl x4), some (.inl x5), some (.inl x6), some (.inl x7), some (.inl x8), some (.inl x9), o10, o11, o12, o13, o14, o15, o16] [.inl s0] (yS e M) (yV e Q)
def R_branch_112 (e : yE) (d : Nat) (x1 x2 x3 x4 x5 x6 x7 x8 x9 x10 x11 x12 x13 : Int) (M : xM) (Q : xM → Prop) : Prop := ∀ (o14 o15 o16 : Option xV), xGo xft xNf xmt xtr d 145 112 [some (.inr (some 59)), some (.inl x1), some (.inl x2), some (.inl x3), some (.inl x4), some (.inl x5), some (.inl x6), some (.inl x7), some (.inl x8), some (.inl x9), some (.inl x10), some (.inl x11), some (.inl x12), some (.inl x13), o14, o15, o16] [] (yS e M) (yV e Q)
def R_branch_144 (e : yE) (d : Nat) (x1 x2 x3 x4 x5 x6 x7 x8 x9 x10 x11 x12 x13 s0 : Int) (M : xM) (Q : xM → Prop) : Prop := ∀ (o14 o15 o16 : Option xV), xGo xft xNf xmt xtr d 145 144 [some (.inr (some 59)), some (.inl x1), some (.inl x2), some (.inl x3), some (.inl x4), some (.inl x5), some (.inl x6), some (.inl x7), some (.inl x8), some (.inl x9), some (.inl x10), some (.inl x11), some (.inl x12), some (.inl x13), o14, o15, o16] [.inl s0] (yS e M) (yV e Q)
def R_branch_181 (e : yE) (d : Nat) (x1 x2 x3 x4 x5 x6 x7 x8 x9 x10 x11 x12 x13 x14 s0 : Int) (M : xM) (Q : xM → Prop) : Prop := ∀ (o15 o16 : Option xV), xGo xft xNf xmt xtr d 145 181 [some (.inr (some 59)), some (.inl x1), some (.inl x2), some (.inl x3), some (.inl x4), some (.inl x5), some (.inl x6), some (.inl x7), some (.inl x8), some (.inl x9), some (.inl x10), some (.inl x11), some (.inl x12), some (.inl x13), some (.inl x14), o15, o16] [.inl s0] (yS e M) (yV e Q)
def R_branch_254 (e : yE) (d : Nat) (x2 x3 x4 x5 x7 x10 x11 x12 x13 : Int) (M : xM) (Q : xM → Prop) : Prop := ∀ (o1 o6 o8 o9 o14 o15 o16 : Option xV), xGo xft xNf xmt xtr d 145 254 [some (.inr (some 59)), o1, some (.inl x2), some (.inl x3), some (.inl x4), some (.inl x5), o6, some (.inl x7), o8, o9, some (.inl x10), some (.inl x11), some (.inl x12), some (.inl x13), o14, o15, o16] [] (yS e M) (yV e Q)
def R_branch_291 (e : yE) (d : Nat) (x2 x3 x4 x5 x7 x10 x11 x12 x13 x14 : Int) (M : xM) (Q : xM → Prop) : Prop := ∀ (o1 o6 o8 o9 o15 o16 : Option xV), xGo xft xNf xmt xtr d 145 291 [some (.inr (some 59)), o1, some (.inl x2), some (.inl x3), some (.inl x4), some (.inl x5), o6, some (.inl x7), o8, o9, some (.inl x10), some (.inl x11), some (.inl x12), some (.inl x13), some (.inl x14), o15, o16] [] (yS e M) (yV e Q)
def R_branch_314 (e : yE) (d : Nat) (x2 x3 x4 x5 x7 x10 x11 x12 x13 x14 x15 x16 : Int) (M : xM) (Q : xM → Prop) : Prop := ∀ (o1 o6 o8 o9 : Option xV), xGo xft xNf xmt xtr d 145 314 [some (.inr (some 59)), o1, some (.inl x2), some (.inl x3), some (.inl x4), some (.inl x5), o6, some (.inl x7), o8, o9, some (.inl x10), some (.inl x11), some (.inl x12), some (.inl x13), some (.inl x14), some (.inl x15), some (.inl x16)] [] (yS e M) (yV e Q)
def R_branch_356 (e : yE) (d : Nat) (x2 x3 x4 x5 x7 x10 x11 x12 x13 x14 x15 x16 : Int) (M : xM) (Q : xM → Prop) : Prop := ∀ (o1 o6 o8 o9 : Option xV), xGo xft xNf xmt xtr d 145 356 [some (.inr (some 59)), o1, some (.inl x2), some (.inl x3), some (.inl x4), some (.inl x5), o6, some (.inl x7), o8, o9, some (.inl x10), some (.inl x11), some (.inl x12), some (.inl x13), some (.inl x14), some (.inl x15), some (.inl x16)] [] (yS e M) (yV e Q)
def R_branch_411 (e : yE) (d : Nat) (x2 x3 x4 x5 x7 x10 x11 x12 x13 x14 x15 x16 s1 s2 s3 : Int) (M : xM) (Q : xM → Prop) : Prop := ∀ (o1 o6 o8 o9 : Option xV), xGo xft xNf xmt xtr d 145 411 [some (.inr (some 59)), o1, some (.inl x2), some (.inl x3), some (.inl x4), some (.inl x5), o6, some (.inl x7), o8, o9, some (.inl x10), some (.inl x11), some (.inl x12), some (.inl x13), some (.inl x14), some (.inl x15), some (.inl x16)] [.inl s3, .inl s2, .inl s1, .inr (some 59)] (yS e M) (yV e Q)
def R_branch_427 (e : yE) (d : Nat) (x2 x3 x4 x5 x7 x10 x11 x12 x13 x14 x15 x16 : Int) (M : xM) (Q : xM → Prop) : Prop := ∀ (o1 o6 o8 o9 : Option xV), xGo xft xNf xmt xtr d 145 427 [some (.inr (some 59)), o1, some (.inl x2), some (.inl x3), some (.inl x4), some (.inl x5), o6, some (.inl x7), o8, o9, some (.inl x10), some (.inl x11), some (.inl x12), some (.inl x13), some (.inl x14), some (.inl x15), some (.inl x16)] [] (yS e M) (yV e Q)
theorem t_branch_0 {e : yE} {d : Nat} {x1 x2 x3 x4 x5 x6 x7 : Int} {M : xM} {Q : xM → Prop} (hs : RSh e) (h :
    (0 ≤ (x6 + x3) ∧ (x6 + x3) < 100000) ∧ 
    ((0 ≤ (M 87 (x6 + x3)) ∧ (M 87 (x6 + x3)) < 1000) ∧ 
    ((rg x5) ∧ ((¬ x5 = 0 → 
      (R_branch_42 e d x1 x2 x3 x4 x5 x6 x7 (M 87 (x6 + x3)) (M 88 (M 87 (x6 + x3))) (0 : Int) M Q)) ∧ 
    (¬ (¬ x5 = 0) → 
      ((rg (M 88 (M 87 (x6 + x3)))) ∧ ((¬ (M 88 (M 87 (x6 + x3))) = 0 → 
        (R_countOf e d (M 88 (M 87 (x6 + x3))) x4 M (fun y2 M1 => 
        R_branch_42 e d x1 x2 x3 x4 x5 x6 x7 (M 87 (x6 + x3)) (M 88 (M 87 (x6 + x3))) y2 M1 Q))) ∧ 
      (¬ (¬ (M 88 (M 87 (x6 + x3))) = 0) → 
        (R_branch_42 e d x1 x2 x3 x4 x5 x6 x7 (M 87 (x6 + x3)) (M 88 (M 87 (x6 + x3))) (0 : Int) M Q))))))))) : R_branch_0 e d x1 x2 x3 x4 x5 x6 x7 M Q := by
  intro o8 o9 o10 o11 o12 o13 o14 o15 o16
  refine xGo.in ?_
  refine And.intro (rs_ob hs) ?_
  refine And.intro (xi_ld (rs_28 hs) (h.1)) ?_
  replace h := h.2
  refine And.intro (rs_ob hs) ?_
  refine And.intro (xi_ld (rs_29 hs) (h.1)) ?_
  replace h := h.2
  refine And.intro (h.1) (And.intro (fun c => ?_) (fun c => ?_))
  · replace h := h.2.1 c
    exact h _ _ _ _ _ _ _
  · replace h := h.2.2 c
    refine And.intro (h.1) (And.intro (fun c => ?_) (fun c => ?_))
    · replace h := h.2.1 c
      refine And.intro ⟨Nat.le_of_ble_eq_true rfl, Nat.le_of_ble_eq_true rfl, rs_ob hs⟩ ?_
      refine yI_use h (fun y2 M1 h => ?_)
      exact h _ _ _ _ _ _ _
    · replace h := h.2.2 c
      exact h _ _ _ _ _ _ _
theorem t_branch_42 {e : yE} {d : Nat} {x1 x2 x3 x4 x5 x6 x7 x8 x9 s0 : Int} {M : xM} {Q : xM → Prop} (hs : RSh e) (h :
    ∀ M1 : xM, M1 = xup M 59 35 ((((M 59 35) + x7) - (1 : Int)) + s0) → 
    ((0 ≤ x8 ∧ x8 < 1000) ∧ 
    (∀ M2 : xM, M2 = xup M1 89 x8 (1 : Int) → 
    ((0 ≤ x8 ∧ x8 < 1000) ∧ 
    (∀ M3 : xM, M3 = xup M2 90 x8 x4 → 
    (((0 ≤ x8 ∧ x8 < 1000) ∧ (x5 = 0 ∨ x5 = 1)) ∧ 
    (∀ M4 : xM, M4 = xup M3 91 x8 x5 → 
    ((0 ≤ x8 ∧ x8 < 1000) ∧ 
    (∀ M5 : xM, M5 = xup M4 92 x8 (M4 59 42) → 
    (R_branch_112 e d x1 x2 x3 x4 x5 x6 x7 x8 x9 s0 (M 59 35) (M 59 42) (0 : Int) M5 Q)))))))))) : R_branch_42 e d x1 x2 x3 x4 x5 x6 x7 x8 x9 s0 M Q := by
  intro o10 o11 o12 o13 o14 o15 o16
  refine xGo.in ?_
  refine And.intro (rs_ob hs) ?_
  refine And.intro (rs_ob hs) ?_
  refine And.intro (rs_ob hs) ?_
  refine And.intro (rs_ob hs) ?_
  obtain ⟨M1, hM1⟩ : ∃ z : xM, z = xup M 59 35 ((((M 59 35) + x7) - (1 : Int)) + s0) := ⟨_, rfl⟩
  refine xgo_st (e := e) (M := M1) (by subst hM1; rfl) ?_
  replace h := h M1 hM1
  refine And.intro (rs_ob hs) ?_
  refine And.intro (xi_stv (rs_30 hs) (h.1) (by decide)) ?_
  replace h := h.2
  obtain ⟨M2, hM2⟩ : ∃ z : xM, z = xup M1 89 x8 (1 : Int) := ⟨_, rfl⟩
  refine xgo_st (e := e) (M := M2) (by subst hM2; rfl) ?_
  replace h := h M2 hM2
  refine And.intro (rs_ob hs) ?_
  refine And.intro (xi_st (rs_31 hs) (h.1)) ?_
  replace h := h.2
  obtain ⟨M3, hM3⟩ : ∃ z : xM, z = xup M2 90 x8 x4 := ⟨_, rfl⟩
  refine xgo_st (e := e) (M := M3) (by subst hM3; rfl) ?_
  replace h := h M3 hM3
  refine And.intro (rs_ob hs) ?_
  refine And.intro (xi_stv (rs_32 hs) (h.1.1) (h.1.2)) ?_
  replace h := h.2
  obtain ⟨M4, hM4⟩ : ∃ z : xM, z = xup M3 91 x8 x5 := ⟨_, rfl⟩
  refine xgo_st (e := e) (M := M4) (by subst hM4; rfl) ?_
  replace h := h M4 hM4
  refine And.intro (rs_ob hs) ?_
  refine And.intro (rs_ob hs) ?_
  refine And.intro (xi_st (rs_33 hs) (h.1)) ?_
  replace h := h.2
  obtain ⟨M5, hM5⟩ : ∃ z : xM, z = xup M4 92 x8 (M4 59 42) := ⟨_, rfl⟩
  refine xgo_st (e := e) (M := M5) (by subst hM5; rfl) ?_
  replace h := h M5 hM5
  exact h _ _ _
theorem t_branch_112 {e : yE} {d : Nat} {x1 x2 x3 x4 x5 x6 x7 x8 x9 x10 x11 x12 x13 : Int} {M : xM} {Q : xM → Prop} (hs : RSh e) (h :
    (rg x13 ∧ rg ((x7 - (1 : Int)) + x10)) ∧ ((((x7 - (1 : Int)) + x10) ≤ x13 → 
      (R_branch_254 e d x2 x3 x4 x5 x7 x10 x11 x12 x1 M Q)) ∧ 
    (¬ (((x7 - (1 : Int)) + x10) ≤ x13) → 
      ((rg x13 ∧ rg x3) ∧ ((x13 < x3 → 
        (R_branch_144 e d x1 x2 x3 x4 x5 x6 x7 x8 x9 x10 x11 x12 x13 (0 : Int) M Q)) ∧ 
      (¬ (x13 < x3) → 
        ((rg x13 ∧ rg (x3 + x10)) ∧ (((x3 + x10) ≤ x13 → 
          (R_branch_144 e d x1 x2 x3 x4 x5 x6 x7 x8 x9 x10 x11 x12 x13 (0 : Int) M Q)) ∧ 
        (¬ ((x3 + x10) ≤ x13) → 
          (R_branch_144 e d x1 x2 x3 x4 x5 x6 x7 x8 x9 x10 x11 x12 x13 (1 : Int) M Q)))))))))) : R_branch_112 e d x1 x2 x3 x4 x5 x6 x7 x8 x9 x10 x11 x12 x13 M Q := by
  intro o14 o15 o16
  refine xGo.in ?_
  refine And.intro (⟨h.1.1, h.1.2⟩) (And.intro (fun c => ?_) (fun c => ?_))
  · replace h := h.2.1 c
    exact h _ _ _ _ _ _ _
  · replace h := h.2.2 c
    refine And.intro (⟨h.1.1, h.1.2⟩) (And.intro (fun c => ?_) (fun c => ?_))
    · replace h := h.2.1 c
      exact h _ _ _
    · replace h := h.2.2 c
      refine And.intro (⟨h.1.1, h.1.2⟩) (And.intro (fun c => ?_) (fun c => ?_))
      · replace h := h.2.1 c
        exact h _ _ _
      · replace h := h.2.2 c
        exact h _ _ _
theorem t_branch_144 {e : yE} {d : Nat} {x1 x2 x3 x4 x5 x6 x7 x8 x9 x10 x11 x12 x13 s0 : Int} {M : xM} {Q : xM → Prop} (hs : RSh e) (h :
    (rg s0) ∧ ((s0 = 0 → 
      (R_branch_181 e d x1 x2 x3 x4 x5 x6 x7 x8 x9 x10 x11 x12 x13 s0 (-1 : Int) M Q)) ∧ 
    (¬ (s0 = 0) → 
      ((rg (M 59 44)) ∧ (((M 59 44) = 0 → 
        (R_branch_181 e d x1 x2 x3 x4 x5 x6 x7 x8 x9 x10 x11 x12 x13 s0 (-1 : Int) M Q)) ∧ 
      (¬ ((M 59 44) = 0) → 
        ((0 ≤ x8 ∧ x8 < 1000) ∧ 
        ((0 ≤ ((((3 : Int) * (M 93 x8)) + x13) - x3) ∧ ((((3 : Int) * (M 93 x8)) + x13) - x3) < 900) ∧ 
        (R_branch_181 e d x1 x2 x3 x4 x5 x6 x7 x8 x9 x10 x11 x12 x13 s0 (M 66 ((((3 : Int) * (M 93 x8)) + x13) - x3)) M Q))))))))) : R_branch_144 e d x1 x2 x3 x4 x5 x6 x7 x8 x9 x10 x11 x12 x13 s0 M Q := by
  intro o14 o15 o16
  refine xGo.in ?_
  refine And.intro (h.1) (And.intro (fun c => ?_) (fun c => ?_))
  · replace h := h.2.1 c
    exact h _ _
  · replace h := h.2.2 c
    refine And.intro (rs_ob hs) ?_
    refine And.intro (h.1) (And.intro (fun c => ?_) (fun c => ?_))
    · replace h := h.2.1 c
      exact h _ _
    · replace h := h.2.2 c
      refine And.intro (rs_ob hs) ?_
      refine And.intro (rs_ob hs) ?_
      refine And.intro (xi_ld (rs_34 hs) (h.1)) ?_
      replace h := h.2
      refine And.intro (xi_ld (rs_7 hs) (h.1)) ?_
      replace h := h.2
      exact h _ _
theorem t_branch_181 {e : yE} {d : Nat} {x1 x2 x3 x4 x5 x6 x7 x8 x9 x10 x11 x12 x13 x14 s0 : Int} {M : xM} {Q : xM → Prop} (hs : RSh e) (h :
    (rg x14) ∧ ((x14 = 0 → 
      ((rg x13 ∧ rg x3) ∧ ((x3 ≤ x13 → 
        ((0 ≤ (x6 + ((x13 - x10) + (1 : Int))) ∧ (x6 + ((x13 - x10) + (1 : Int))) < 100000) ∧ 
        ((0 ≤ (x11 + x13) ∧ (x11 + x13) < 100000) ∧ 
        (∀ M1 : xM, M1 = xup M 87 (x11 + x13) (M 87 (x6 + ((x13 - x10) + (1 : Int)))) → 
        (R_branch_112 e d x1 x2 x3 x4 x5 x6 x7 x8 x9 x10 x11 x12 (x13 + 1) M1 Q))))) ∧ 
      (¬ (x3 ≤ x13) → 
        ((0 ≤ (x6 + x13) ∧ (x6 + x13) < 100000) ∧ 
        ((0 ≤ (x11 + x13) ∧ (x11 + x13) < 100000) ∧ 
        (∀ M2 : xM, M2 = xup M 87 (x11 + x13) (M 87 (x6 + x13)) → 
        (R_branch_112 e d x1 x2 x3 x4 x5 x6 x7 x8 x9 x10 x11 x12 (x13 + 1) M2 Q)))))))) ∧ 
    (¬ (x14 = 0) → 
      (R_partType e d x9 x4 (x13 - x3) M (fun y4 M3 => 
      R_newPlace e d y4 s0 M3 (fun y6 M5 => 
      (0 ≤ (x11 + x13) ∧ (x11 + x13) < 100000) ∧ 
      (∀ M7 : xM, M7 = xup M5 87 (x11 + x13) y6 → 
      (R_branch_112 e d x1 x2 x3 x4 x5 x6 x7 x8 x9 x10 x11 x12 (x13 + 1) M7 Q)))))))) : R_branch_181 e d x1 x2 x3 x4 x5 x6 x7 x8 x9 x10 x11 x12 x13 x14 s0 M Q := by
  intro o15 o16
  refine xGo.in ?_
  refine And.intro (rs_ob hs) ?_
  refine And.intro (h.1) (And.intro (fun c => ?_) (fun c => ?_))
  · replace h := h.2.1 c
    refine And.intro (rs_ob hs) ?_
    refine And.intro (⟨h.1.1, h.1.2⟩) (And.intro (fun c => ?_) (fun c => ?_))
    · replace h := h.2.1 c
      refine And.intro (xi_ld (rs_28 hs) (h.1)) ?_
      replace h := h.2
      refine And.intro (xi_st (rs_28 hs) (h.1)) ?_
      replace h := h.2
      obtain ⟨M1, hM1⟩ : ∃ z : xM, z = xup M 87 (x11 + x13) (M 87 (x6 + ((x13 - x10) + (1 : Int)))) := ⟨_, rfl⟩
      refine xgo_st (e := e) (M := M1) (by subst hM1; rfl) ?_
      replace h := h M1 hM1
      exact h _ _ _
    · replace h := h.2.2 c
      refine And.intro (xi_ld (rs_28 hs) (h.1)) ?_
      replace h := h.2
      refine And.intro (xi_st (rs_28 hs) (h.1)) ?_
      replace h := h.2
      obtain ⟨M2, hM2⟩ : ∃ z : xM, z = xup M 87 (x11 + x13) (M 87 (x6 + x13)) := ⟨_, rfl⟩
      refine xgo_st (e := e) (M := M2) (by subst hM2; rfl) ?_
      replace h := h M2 hM2
      exact h _ _ _
  · replace h := h.2.2 c
    refine And.intro ⟨Nat.le_of_ble_eq_true rfl, Nat.le_of_ble_eq_true rfl, rs_ob hs⟩ ?_
    refine yI_use h (fun y4 M3 h => ?_)
    refine And.intro ⟨Nat.le_of_ble_eq_true rfl, Nat.le_of_ble_eq_true rfl, rs_ob hs⟩ ?_
    refine yI_use h (fun y6 M5 h => ?_)
    refine And.intro (xi_st (rs_28 hs) (h.1)) ?_
    replace h := h.2
    obtain ⟨M7, hM7⟩ : ∃ z : xM, z = xup M5 87 (x11 + x13) y6 := ⟨_, rfl⟩
    refine xgo_st (e := e) (M := M7) (by subst hM7; rfl) ?_
    replace h := h M7 hM7
    exact h _ _ _
theorem t_branch_254 {e : yE} {d : Nat} {x2 x3 x4 x5 x7 x10 x11 x12 x13 : Int} {M : xM} {Q : xM → Prop} (hs : RSh e) (h :
    (rg x13 ∧ rg x2) ∧ ((x2 ≤ x13 → 
      (R_node e d x2 x11 ((x7 - (1 : Int)) + x10) M (fun M1 => 
      ∀ M2 : xM, M2 = xup M1 59 42 x12 → 
      (∀ M3 : xM, M3 = xup M2 59 35 x11 → 
      (Q M3))))) ∧ 
    (¬ (x2 ≤ x13) → 
      (R_cell e d x13 x3 M (fun y5 M4 => 
      (rg y5) ∧ ((y5 < 0 → 
        (R_branch_291 e d x2 x3 x4 x5 x7 x10 x11 x12 x13 y5 M4 Q)) ∧ 
      (¬ (y5 < 0) → 
        ((rg x5) ∧ ((¬ x5 = 0 → 
          (R_branch_254 e d x2 x3 x4 x5 x7 x10 x11 x12 (x13 + 1) M4 Q)) ∧ 
        (¬ (¬ x5 = 0) → 
          ((0 ≤ y5 ∧ y5 < 300) ∧ 
          ((rg (M4 70 y5) ∧ rg x4) ∧ ((¬ (M4 70 y5) = x4 → 
            (R_branch_254 e d x2 x3 x4 x5 x7 x10 x11 x12 (x13 + 1) M4 Q)) ∧ 
          (¬ (¬ (M4 70 y5) = x4) → 
            (R_branch_291 e d x2 x3 x4 x5 x7 x10 x11 x12 x13 y5 M4 Q))))))))))))))) : R_branch_254 e d x2 x3 x4 x5 x7 x10 x11 x12 x13 M Q := by
  intro o1 o6 o8 o9 o14 o15 o16
  refine xGo.in ?_
  refine And.intro (⟨h.1.1, h.1.2⟩) (And.intro (fun c => ?_) (fun c => ?_))
  · replace h := h.2.1 c
    refine And.intro ⟨Nat.le_of_ble_eq_true rfl, Nat.le_of_ble_eq_true rfl, rs_ob hs⟩ ?_
    refine yV_use h (fun _ M1 h => ?_)
    refine And.intro (rs_ob hs) ?_
    obtain ⟨M2, hM2⟩ : ∃ z : xM, z = xup M1 59 42 x12 := ⟨_, rfl⟩
    refine xgo_st (e := e) (M := M2) (by subst hM2; rfl) ?_
    replace h := h M2 hM2
    refine And.intro (rs_ob hs) ?_
    obtain ⟨M3, hM3⟩ : ∃ z : xM, z = xup M2 59 35 x11 := ⟨_, rfl⟩
    refine xgo_st (e := e) (M := M3) (by subst hM3; rfl) ?_
    replace h := h M3 hM3
    exact yV_ret (r := .inl 0) h
  · replace h := h.2.2 c
    refine And.intro ⟨Nat.le_of_ble_eq_true rfl, Nat.le_of_ble_eq_true rfl, rs_ob hs⟩ ?_
    refine yI_use h (fun y5 M4 h => ?_)
    refine And.intro (h.1) (And.intro (fun c => ?_) (fun c => ?_))
    · replace h := h.2.1 c
      exact h _ _ _ _ _ _
    · replace h := h.2.2 c
      refine And.intro (h.1) (And.intro (fun c => ?_) (fun c => ?_))
      · replace h := h.2.1 c
        exact h _ _ _ _ _ _ _
      · replace h := h.2.2 c
        refine And.intro (rs_ob hs) ?_
        refine And.intro (xi_ld (rs_11 hs) (h.1)) ?_
        replace h := h.2
        refine And.intro (⟨h.1.1, h.1.2⟩) (And.intro (fun c => ?_) (fun c => ?_))
        · replace h := h.2.1 c
          exact h _ _ _ _ _ _ _
        · replace h := h.2.2 c
          exact h _ _ _ _ _ _
theorem t_branch_291 {e : yE} {d : Nat} {x2 x3 x4 x5 x7 x10 x11 x12 x13 x14 : Int} {M : xM} {Q : xM → Prop} (hs : RSh e) (h :
    (0 ≤ x13 ∧ x13 < 8000) ∧ 
    (R_pushRow e d (M 83 x13) ((x7 - (1 : Int)) + x10) M (fun y2 M1 => 
    R_branch_314 e d x2 x3 x4 x5 x7 x10 x11 x12 x13 x14 y2 (0 : Int) M1 Q))) : R_branch_291 e d x2 x3 x4 x5 x7 x10 x11 x12 x13 x14 M Q := by
  intro o1 o6 o8 o9 o15 o16
  refine xGo.in ?_
  refine And.intro (rs_ob hs) ?_
  refine And.intro (xi_ld (rs_24 hs) (h.1)) ?_
  replace h := h.2
  refine And.intro ⟨Nat.le_of_ble_eq_true rfl, Nat.le_of_ble_eq_true rfl, rs_ob hs⟩ ?_
  refine yI_use h (fun y2 M1 h => ?_)
  exact h _ _ _ _
theorem t_branch_314 {e : yE} {d : Nat} {x2 x3 x4 x5 x7 x10 x11 x12 x13 x14 x15 x16 : Int} {M : xM} {Q : xM → Prop} (hs : RSh e) (h :
    (rg x16) ∧ (((16 : Int) ≤ x16 → 
      (R_branch_356 e d x2 x3 x4 x5 x7 x10 x11 x12 x13 x14 x15 (0 : Int) M Q)) ∧ 
    (¬ ((16 : Int) ≤ x16) → 
      ((0 ≤ (((16 : Int) * x13) + x16) ∧ (((16 : Int) * x13) + x16) < 128000) ∧ 
      ((0 ≤ (((16 : Int) * x15) + x16) ∧ (((16 : Int) * x15) + x16) < 128000) ∧ 
      (∀ M1 : xM, M1 = xup M 85 (((16 : Int) * x15) + x16) (M 85 (((16 : Int) * x13) + x16)) → 
      (R_branch_314 e d x2 x3 x4 x5 x7 x10 x11 x12 x13 x14 x15 (x16 + 1) M1 Q))))))) : R_branch_314 e d x2 x3 x4 x5 x7 x10 x11 x12 x13 x14 x15 x16 M Q := by
  intro o1 o6 o8 o9
  refine xGo.in ?_
  refine And.intro (⟨h.1, rg_lit (by decide)⟩) (And.intro (fun c => ?_) (fun c => ?_))
  · replace h := h.2.1 c
    exact h _ _ _ _
  · replace h := h.2.2 c
    refine And.intro (rs_ob hs) ?_
    refine And.intro (rs_ob hs) ?_
    refine And.intro (xi_ld (rs_26 hs) (h.1)) ?_
    replace h := h.2
    refine And.intro (xi_st (rs_26 hs) (h.1)) ?_
    replace h := h.2
    obtain ⟨M1, hM1⟩ : ∃ z : xM, z = xup M 85 (((16 : Int) * x15) + x16) (M 85 (((16 : Int) * x13) + x16)) := ⟨_, rfl⟩
    refine xgo_st (e := e) (M := M1) (by subst hM1; rfl) ?_
    replace h := h M1 hM1
    exact h _ _ _ _
theorem t_branch_356 {e : yE} {d : Nat} {x2 x3 x4 x5 x7 x10 x11 x12 x13 x14 x15 x16 : Int} {M : xM} {Q : xM → Prop} (hs : RSh e) (h :
    (rg x16 ∧ rg ((x7 - (1 : Int)) + x10)) ∧ ((((x7 - (1 : Int)) + x10) ≤ x16 → 
      (R_branch_254 e d x2 x3 x4 x5 x7 x10 x11 x12 (x13 + 1) M Q)) ∧ 
    (¬ (((x7 - (1 : Int)) + x10) ≤ x16) → 
      ((rg x16 ∧ rg x3) ∧ ((x16 < x3 → 
        (R_branch_427 e d x2 x3 x4 x5 x7 x10 x11 x12 x13 x14 x15 x16 M Q)) ∧ 
      (¬ (x16 < x3) → 
        ((rg x16 ∧ rg (x3 + x10)) ∧ (((x3 + x10) ≤ x16 → 
          (R_branch_427 e d x2 x3 x4 x5 x7 x10 x11 x12 x13 x14 x15 x16 M Q)) ∧ 
        (¬ ((x3 + x10) ≤ x16) → 
          ((rg x14) ∧ ((0 ≤ x14 → 
            ((0 ≤ ((((3 : Int) * x14) + x16) - x3) ∧ ((((3 : Int) * x14) + x16) - x3) < 900) ∧ 
            (R_branch_411 e d x2 x3 x4 x5 x7 x10 x11 x12 x13 x14 x15 x16 x15 x16 (M 71 ((((3 : Int) * x14) + x16) - x3)) M Q))) ∧ 
          (¬ (0 ≤ x14) → 
            (R_branch_411 e d x2 x3 x4 x5 x7 x10 x11 x12 x13 x14 x15 x16 x15 x16 (-1 : Int) M Q))))))))))))) : R_branch_356 e d x2 x3 x4 x5 x7 x10 x11 x12 x13 x14 x15 x16 M Q := by
  intro o1 o6 o8 o9
  refine xGo.in ?_
  refine And.intro (⟨h.1.1, h.1.2⟩) (And.intro (fun c => ?_) (fun c => ?_))
  · replace h := h.2.1 c
    exact h _ _ _ _ _ _ _
  · replace h := h.2.2 c
    refine And.intro (⟨h.1.1, h.1.2⟩) (And.intro (fun c => ?_) (fun c => ?_))
    · replace h := h.2.1 c
      exact h _ _ _ _
    · replace h := h.2.2 c
      refine And.intro (⟨h.1.1, h.1.2⟩) (And.intro (fun c => ?_) (fun c => ?_))
      · replace h := h.2.1 c
        exact h _ _ _ _
      · replace h := h.2.2 c
        refine And.intro (h.1) (And.intro (fun c => ?_) (fun c => ?_))
        · replace h := h.2.1 c
          refine And.intro (rs_ob hs) ?_
          refine And.intro (xi_ld (rs_12 hs) (h.1)) ?_
          replace h := h.2
          exact h _ _ _ _
        · replace h := h.2.2 c
          exact h _ _ _ _
theorem t_branch_411 {e : yE} {d : Nat} {x2 x3 x4 x5 x7 x10 x11 x12 x13 x14 x15 x16 s1 s2 s3 : Int} {M : xM} {Q : xM → Prop} (hs : RSh e) (h :
    (0 ≤ (x11 + x16) ∧ (x11 + x16) < 100000) ∧ 
    (R_setCell e d s1 s2 s3 (M 87 (x11 + x16)) M (fun M1 => 
    R_branch_356 e d x2 x3 x4 x5 x7 x10 x11 x12 x13 x14 x15 (x16 + 1) M1 Q))) : R_branch_411 e d x2 x3 x4 x5 x7 x10 x11 x12 x13 x14 x15 x16 s1 s2 s3 M Q := by
  intro o1 o6 o8 o9
  refine xGo.in ?_
  refine And.intro (rs_ob hs) ?_
  refine And.intro (xi_ld (rs_28 hs) (h.1)) ?_
  replace h := h.2
  refine And.intro ⟨Nat.le_of_ble_eq_true rfl, Nat.le_of_ble_eq_true rfl, rs_ob hs⟩ ?_
  refine yV_use h (fun _ M1 h => ?_)
  exact h _ _ _ _
theorem t_branch_427 {e : yE} {d : Nat} {x2 x3 x4 x5 x7 x10 x11 x12 x13 x14 x15 x16 : Int} {M : xM} {Q : xM → Prop} (hs : RSh e) (h :
    (0 ≤ x15 ∧ x15 < 8000) ∧ 
    ((0 ≤ x13 ∧ x13 < 8000) ∧ 
    ((rg x16 ∧ rg x3) ∧ ((x3 ≤ x16 → 
      ((0 ≤ ((M 84 x13) + ((x16 - x10) + (1 : Int))) ∧ ((M 84 x13) + ((x16 - x10) + (1 : Int))) < 2300000) ∧ 
      (((0 ≤ ((M 84 x15) + x16) ∧ ((M 84 x15) + x16) < 2300000) ∧ (-32768 ≤ (M 86 ((M 84 x13) + ((x16 - x10) + (1 : Int)))) ∧ (M 86 ((M 84 x13) + ((x16 - x10) + (1 : Int)))) ≤ 32767)) ∧ 
      (∀ M1 : xM, M1 = xup M 86 ((M 84 x15) + x16) (M 86 ((M 84 x13) + ((x16 - x10) + (1 : Int)))) → 
      (R_branch_356 e d x2 x3 x4 x5 x7 x10 x11 x12 x13 x14 x15 (x16 + 1) M1 Q))))) ∧ 
    (¬ (x3 ≤ x16) → 
      ((0 ≤ ((M 84 x13) + x16) ∧ ((M 84 x13) + x16) < 2300000) ∧ 
      (((0 ≤ ((M 84 x15) + x16) ∧ ((M 84 x15) + x16) < 2300000) ∧ (-32768 ≤ (M 86 ((M 84 x13) + x16)) ∧ (M 86 ((M 84 x13) + x16)) ≤ 32767)) ∧ 
      (∀ M2 : xM, M2 = xup M 86 ((M 84 x15) + x16) (M 86 ((M 84 x13) + x16)) → 
      (R_branch_356 e d x2 x3 x4 x5 x7 x10 x11 x12 x13 x14 x15 (x16 + 1) M2 Q))))))))) : R_branch_427 e d x2 x3 x4 x5 x7 x10 x11 x12 x13 x14 x15 x16 M Q := by
  intro o1 o6 o8 o9
  refine xGo.in ?_
  refine And.intro (rs_ob hs) ?_
  refine And.intro (rs_ob hs) ?_
  refine And.intro (xi_ld (rs_25 hs) (h.1)) ?_
  replace h := h.2
  refine And.intro (rs_ob hs) ?_
  refine And.intro (rs_ob hs) ?_
  refine And.intro (xi_ld (rs_25 hs) (h.1)) ?_
  replace h := h.2
  refine And.intro (⟨h.1.1, h.1.2⟩) (And.intro (fun c => ?_) (fun c => ?_))
  · replace h := h.2.1 c
    refine And.intro (xi_ldb (rs_27 hs) (h.1)) ?_
    replace h := h.2
    refine And.intro (xi_stv (rs_27 hs) (h.1.1) (h.1.2)) ?_
    replace h := h.2
    obtain ⟨M1, hM1⟩ : ∃ z : xM, z = xup M 86 ((M 84 x15) + x16) (M 86 ((M 84 x13) + ((x16 - x10) + (1 : Int)))) := ⟨_, rfl⟩
    refine xgo_st (e := e) (M := M1) (by subst hM1; rfl) ?_
    replace h := h M1 hM1
    exact h _ _ _ _
  · replace h := h.2.2 c
    refine And.intro (xi_ldb (rs_27 hs) (h.1)) ?_
    replace h := h.2
    refine And.intro (xi_stv (rs_27 hs) (h.1.1) (h.1.2)) ?_
    replace h := h.2
    obtain ⟨M2, hM2⟩ : ∃ z : xM, z = xup M 86 ((M 84 x15) + x16) (M 86 ((M 84 x13) + x16)) := ⟨_, rfl⟩
    refine xgo_st (e := e) (M := M2) (by subst hM2; rfl) ?_
    replace h := h M2 hM2
    exact h _ _ _ _
theorem t_branch {e : yE} {d : Nat} {x1 : Int} {x2 : Int} {x3 : Int} {x4 : Int} {x5 : Int} {x6 : Int} {x7 : Int} {M : xM} {Q : xM → Prop} (h : R_branch_0 e d x1 x2 x3 x4 x5 x6 x7 M Q) : R_branch e (d + 1) x1 x2 x3 x4 x5 x6 x7 M Q := h _ _ _ _ _ _ _ _ _
def R_put_0 (e : yE) (d : Nat) (x1 : Int) (M : xM) (Q : xM → Prop) : Prop := xGo xft xNf xmt xtr d 146 0 [some (.inr (some 59)), some (.inl x1)] [] (yS e M) (yV e Q)
theorem t_put_0 {e : yE} {d : Nat} {x1 : Int} {M : xM} {Q : xM → Prop} (hs : RSh e) (h :
    (rg (M 59 50)) ∧ (((4001 : Int) ≤ (M 59 50) → 
      (Q M)) ∧ 
    (¬ ((4001 : Int) ≤ (M 59 50)) → 
      ((0 ≤ (M 59 50) ∧ (M 59 50) < 4001) ∧ 
      (∀ M1 : xM, M1 = xup M 95 (M 59 50) x1 → 
      (∀ M2 : xM, M2 = xup M1 59 50 ((M1 59 50) + (1 : Int)) → 
      (Q M2))))))) : R_put_0 e d x1 M Q := by
  refine xGo.in ?_
  refine And.intro (rs_ob hs) ?_
  refine And.intro (⟨h.1, rg_lit (by decide)⟩) (And.intro (fun c => ?_) (fun c => ?_))
  · replace h := h.2.1 c
    exact yV_ret (r := .inl 0) h
  · replace h := h.2.2 c
    refine And.intro (rs_ob hs) ?_
    refine And.intro (rs_ob hs) ?_
    refine And.intro (xi_st (rs_36 hs) (h.1)) ?_
    replace h := h.2
    obtain ⟨M1, hM1⟩ : ∃ z : xM, z = xup M 95 (M 59 50) x1 := ⟨_, rfl⟩
    refine xgo_st (e := e) (M := M1) (by subst hM1; rfl) ?_
    replace h := h M1 hM1
    refine And.intro (rs_ob hs) ?_
    refine And.intro (rs_ob hs) ?_
    obtain ⟨M2, hM2⟩ : ∃ z : xM, z = xup M1 59 50 ((M1 59 50) + (1 : Int)) := ⟨_, rfl⟩
    refine xgo_st (e := e) (M := M2) (by subst hM2; rfl) ?_
    replace h := h M2 hM2
    exact yV_ret (r := .inl 0) h
theorem t_put {e : yE} {d : Nat} {x1 : Int} {M : xM} {Q : xM → Prop} (h : R_put_0 e d x1 M Q) : R_put e (d + 1) x1 M Q := h
def R_tellPlain_0 (e : yE) (d : Nat) (x1 : Int) (M : xM) (Q : xM → Prop) : Prop := ∀ (o2 o3 : Option xV), xGo xft xNf xmt xtr d 147 0 [some (.inr (some 59)), some (.inl x1), o2, o3] [] (yS e M) (yV e Q)
def R_tellPlain_12 (e : yE) (d : Nat) (x1 x2 : Int) (M : xM) (Q : xM → Prop) : Prop := ∀ (o3 : Option xV), xGo xft xNf xmt xtr d 147 12 [some (.inr (some 59)), some (.inl x1), some (.inl x2), o3] [] (yS e M) (yV e Q)
def R_tellPlain_40 (e : yE) (d : Nat) (x1 x2 x3 : Int) (M : xM) (Q : xM → Prop) : Prop := xGo xft xNf xmt xtr d 147 40 [some (.inr (some 59)), some (.inl x1), some (.inl x2), some (.inl x3)] [] (yS e M) (yV e Q)
theorem t_tellPlain_0 {e : yE} {d : Nat} {x1 : Int} {M : xM} {Q : xM → Prop} (hs : RSh e) (h :
    (rg x1) ∧ ((¬ x1 = 0 → 
      (R_tellPlain_12 e d x1 (0 : Int) M Q)) ∧ 
    (¬ (¬ x1 = 0) → 
      (R_put e d (0 : Int) M (fun M1 => 
      Q M1))))) : R_tellPlain_0 e d x1 M Q := by
  intro o2 o3
  refine xGo.in ?_
  refine And.intro (h.1) (And.intro (fun c => ?_) (fun c => ?_))
  · replace h := h.2.1 c
    exact h _
  · replace h := h.2.2 c
    refine And.intro ⟨Nat.le_of_ble_eq_true rfl, Nat.le_of_ble_eq_true rfl, rs_ob hs⟩ ?_
    refine yV_use h (fun _ M1 h => ?_)
    exact yV_ret (r := .inl 0) h
theorem t_tellPlain_12 {e : yE} {d : Nat} {x1 x2 : Int} {M : xM} {Q : xM → Prop} (hs : RSh e) (h :
    R_madeSize e d x1 x2 M (fun y2 M1 => 
    (0 ≤ x1 ∧ x1 < 8) ∧ 
    ((rg y2 ∧ rg (M1 63 x1)) ∧ ((y2 = (M1 63 x1) → 
      (R_put e d x2 M1 (fun M3 => 
      R_tellPlain_40 e d x1 x2 (0 : Int) M3 Q))) ∧ 
    (¬ (y2 = (M1 63 x1)) → 
      (R_tellPlain_12 e d x1 (x2 + 1) M1 Q)))))) : R_tellPlain_12 e d x1 x2 M Q := by
  intro o3
  refine xGo.in ?_
  refine And.intro ⟨Nat.le_of_ble_eq_true rfl, Nat.le_of_ble_eq_true rfl, rs_ob hs⟩ ?_
  refine yI_use h (fun y2 M1 h => ?_)
  refine And.intro (rs_ob hs) ?_
  refine And.intro (xi_ld (rs_4 hs) (h.1)) ?_
  replace h := h.2
  refine And.intro (⟨h.1.1, h.1.2⟩) (And.intro (fun c => ?_) (fun c => ?_))
  · replace h := h.2.1 c
    refine And.intro ⟨Nat.le_of_ble_eq_true rfl, Nat.le_of_ble_eq_true rfl, rs_ob hs⟩ ?_
    refine yV_use h (fun _ M3 h => ?_)
    exact h
  · replace h := h.2.2 c
    exact h _
theorem t_tellPlain_40 {e : yE} {d : Nat} {x1 x2 x3 : Int} {M : xM} {Q : xM → Prop} (hs : RSh e) (h :
    R_countOf e d x1 x2 M (fun y2 M1 => 
    (rg x3 ∧ rg y2) ∧ ((y2 ≤ x3 → 
      (Q M1)) ∧ 
    (¬ (y2 ≤ x3) → 
      ((rg (M1 59 50)) ∧ (((4001 : Int) ≤ (M1 59 50) → 
        (Q M1)) ∧ 
      (¬ ((4001 : Int) ≤ (M1 59 50)) → 
        (R_partType e d x1 x2 x3 M1 (fun y4 M3 => 
        R_tellPlain e d y4 M3 (fun M5 => 
        R_tellPlain_40 e d x1 x2 (x3 + 1) M5 Q)))))))))) : R_tellPlain_40 e d x1 x2 x3 M Q := by
  refine xGo.in ?_
  refine And.intro ⟨Nat.le_of_ble_eq_true rfl, Nat.le_of_ble_eq_true rfl, rs_ob hs⟩ ?_
  refine yI_use h (fun y2 M1 h => ?_)
  refine And.intro (⟨h.1.1, h.1.2⟩) (And.intro (fun c => ?_) (fun c => ?_))
  · replace h := h.2.1 c
    exact yV_ret (r := .inl 0) h
  · replace h := h.2.2 c
    refine And.intro (rs_ob hs) ?_
    refine And.intro (⟨h.1, rg_lit (by decide)⟩) (And.intro (fun c => ?_) (fun c => ?_))
    · replace h := h.2.1 c
      exact yV_ret (r := .inl 0) h
    · replace h := h.2.2 c
      refine And.intro ⟨Nat.le_of_ble_eq_true rfl, Nat.le_of_ble_eq_true rfl, rs_ob hs⟩ ?_
      refine yI_use h (fun y4 M3 h => ?_)
      refine And.intro ⟨Nat.le_of_ble_eq_true rfl, Nat.le_of_ble_eq_true rfl, rs_ob hs⟩ ?_
      refine yV_use h (fun _ M5 h => ?_)
      exact h
theorem t_tellPlain {e : yE} {d : Nat} {x1 : Int} {M : xM} {Q : xM → Prop} (h : R_tellPlain_0 e d x1 M Q) : R_tellPlain e (d + 1) x1 M Q := h _ _
def R_tell_0 (e : yE) (d : Nat) (x1 : Int) (M : xM) (Q : xM → Prop) : Prop := ∀ (o2 o3 o4 : Option xV), xGo xft xNf xmt xtr d 148 0 [some (.inr (some 59)), some (.inl x1), o2, o3, o4] [] (yS e M) (yV e Q)
def R_tell_37 (e : yE) (d : Nat) (x1 x2 x3 x4 : Int) (M : xM) (Q : xM → Prop) : Prop := xGo xft xNf xmt xtr d 148 37 [some (.inr (some 59)), some (.inl x1), some (.inl x2), some (.inl x3), some (.inl x4)] [] (yS e M) (yV e Q)
theorem t_tell_0 {e : yE} {d : Nat} {x1 : Int} {M : xM} {Q : xM → Prop} (hs : RSh e) (h :
    (0 ≤ x1 ∧ x1 < 1000) ∧ 
    ((0 ≤ x1 ∧ x1 < 1000) ∧ 
    ((0 ≤ x1 ∧ x1 < 1000) ∧ 
    ((rg (M 89 x1)) ∧ ((¬ (M 89 x1) = 0 → 
      (R_put e d (M 90 x1) M (fun M1 => 
      R_tell_37 e d x1 (M 88 x1) (M 90 x1) (0 : Int) M1 Q))) ∧ 
    (¬ (¬ (M 89 x1) = 0) → 
      (R_tellPlain e d (M 88 x1) M (fun M2 => 
      Q M2)))))))) : R_tell_0 e d x1 M Q := by
  intro o2 o3 o4
  refine xGo.in ?_
  refine And.intro (rs_ob hs) ?_
  refine And.intro (xi_ld (rs_29 hs) (h.1)) ?_
  replace h := h.2
  refine And.intro (rs_ob hs) ?_
  refine And.intro (xi_ld (rs_31 hs) (h.1)) ?_
  replace h := h.2
  refine And.intro (rs_ob hs) ?_
  refine And.intro (xi_ldb (rs_30 hs) (h.1)) ?_
  replace h := h.2
  refine And.intro (h.1) (And.intro (fun c => ?_) (fun c => ?_))
  · replace h := h.2.1 c
    refine And.intro ⟨Nat.le_of_ble_eq_true rfl, Nat.le_of_ble_eq_true rfl, rs_ob hs⟩ ?_
    refine yV_use h (fun _ M1 h => ?_)
    exact h
  · replace h := h.2.2 c
    refine And.intro ⟨Nat.le_of_ble_eq_true rfl, Nat.le_of_ble_eq_true rfl, rs_ob hs⟩ ?_
    refine yV_use h (fun _ M2 h => ?_)
    exact yV_ret (r := .inl 0) h
theorem t_tell_37 {e : yE} {d : Nat} {x1 x2 x3 x4 : Int} {M : xM} {Q : xM → Prop} (hs : RSh e) (h :
    (rg x2) ∧ ((x2 ≤ 0 → 
      (Q M)) ∧ 
    (¬ (x2 ≤ 0) → 
      (R_countOf e d x2 x3 M (fun y2 M1 => 
      (rg x4 ∧ rg y2) ∧ ((y2 ≤ x4 → 
        (Q M1)) ∧ 
      (¬ (y2 ≤ x4) → 
        ((rg (M1 59 50)) ∧ (((4001 : Int) ≤ (M1 59 50) → 
          (Q M1)) ∧ 
        (¬ ((4001 : Int) ≤ (M1 59 50)) → 
          ((0 ≤ x1 ∧ x1 < 1000) ∧ 
          ((rg (M1 91 x1)) ∧ (((M1 91 x1) = 0 → 
            ((0 ≤ x1 ∧ x1 < 1000) ∧ 
            (R_tell e d ((M1 92 x1) + x4) M1 (fun M3 => 
            R_tell_37 e d x1 x2 x3 (x4 + 1) M3 Q)))) ∧ 
          (¬ ((M1 91 x1) = 0) → 
            (R_partType e d x2 x3 x4 M1 (fun y5 M4 => 
            R_tellPlain e d y5 M4 (fun M6 => 
            R_tell_37 e d x1 x2 x3 (x4 + 1) M6 Q))))))))))))))))) : R_tell_37 e d x1 x2 x3 x4 M Q := by
  refine xGo.in ?_
  refine And.intro (h.1) (And.intro (fun c => ?_) (fun c => ?_))
  · replace h := h.2.1 c
    exact yV_ret (r := .inl 0) h
  · replace h := h.2.2 c
    refine And.intro ⟨Nat.le_of_ble_eq_true rfl, Nat.le_of_ble_eq_true rfl, rs_ob hs⟩ ?_
    refine yI_use h (fun y2 M1 h => ?_)
    refine And.intro (⟨h.1.1, h.1.2⟩) (And.intro (fun c => ?_) (fun c => ?_))
    · replace h := h.2.1 c
      exact yV_ret (r := .inl 0) h
    · replace h := h.2.2 c
      refine And.intro (rs_ob hs) ?_
      refine And.intro (⟨h.1, rg_lit (by decide)⟩) (And.intro (fun c => ?_) (fun c => ?_))
      · replace h := h.2.1 c
        exact yV_ret (r := .inl 0) h
      · replace h := h.2.2 c
        refine And.intro (rs_ob hs) ?_
        refine And.intro (xi_ldb (rs_32 hs) (h.1)) ?_
        replace h := h.2
        refine And.intro (h.1) (And.intro (fun c => ?_) (fun c => ?_))
        · replace h := h.2.1 c
          refine And.intro (rs_ob hs) ?_
          refine And.intro (xi_ld (rs_33 hs) (h.1)) ?_
          replace h := h.2
          refine And.intro ⟨Nat.le_of_ble_eq_true rfl, Nat.le_of_ble_eq_true rfl, rs_ob hs⟩ ?_
          refine yV_use h (fun _ M3 h => ?_)
          exact h
        · replace h := h.2.2 c
          refine And.intro ⟨Nat.le_of_ble_eq_true rfl, Nat.le_of_ble_eq_true rfl, rs_ob hs⟩ ?_
          refine yI_use h (fun y5 M4 h => ?_)
          refine And.intro ⟨Nat.le_of_ble_eq_true rfl, Nat.le_of_ble_eq_true rfl, rs_ob hs⟩ ?_
          refine yV_use h (fun _ M6 h => ?_)
          exact h
theorem t_tell {e : yE} {d : Nat} {x1 : Int} {M : xM} {Q : xM → Prop} (h : R_tell_0 e d x1 M Q) : R_tell e (d + 1) x1 M Q := h _ _ _
def R_look_0 (e : yE) (d : Nat) (x1 : Int) (M : xM) (Q : xM → Prop) : Prop := ∀ (o2 : Option xV), xGo xft xNf xmt xtr d 149 0 [some (.inr (some 59)), some (.inl x1), o2] [] (yS e M) (yV e Q)
def R_look_37 (e : yE) (d : Nat) (x1 x2 : Int) (M : xM) (Q : xM → Prop) : Prop := xGo xft xNf xmt xtr d 149 37 [some (.inr (some 59)), some (.inl x1), some (.inl x2)] [] (yS e M) (yV e Q)
theorem t_look_0 {e : yE} {d : Nat} {x1 : Int} {M : xM} {Q : xM → Prop} (hs : RSh e) (h :
    (0 ≤ x1 ∧ x1 < 20) ∧ 
    ((rg (M 96 x1)) ∧ ((¬ (M 96 x1) = 0 → 
      (Q M)) ∧ 
    (¬ (¬ (M 96 x1) = 0) → 
      (R_goThrough e d x1 (0 : Int) (-1 : Int) (-1 : Int) (-1 : Int) M (fun M1 => 
      (0 ≤ x1 ∧ x1 < 20) ∧ 
      (∀ M2 : xM, M2 = xup M1 96 x1 (1 : Int) → 
      (((0 ≤ x1 ∧ x1 < 20) ∧ ((M2 59 45) = 0 ∨ (M2 59 45) = 1)) ∧ 
      (∀ M3 : xM, M3 = xup M2 97 x1 (M2 59 45) → 
      (R_look_37 e d x1 (0 : Int) M3 Q)))))))))) : R_look_0 e d x1 M Q := by
  intro o2
  refine xGo.in ?_
  refine And.intro (rs_ob hs) ?_
  refine And.intro (xi_ldb (rs_37 hs) (h.1)) ?_
  replace h := h.2
  refine And.intro (h.1) (And.intro (fun c => ?_) (fun c => ?_))
  · replace h := h.2.1 c
    exact yV_ret (r := .inl 0) h
  · replace h := h.2.2 c
    refine And.intro ⟨Nat.le_of_ble_eq_true rfl, Nat.le_of_ble_eq_true rfl, rs_ob hs⟩ ?_
    refine yV_use h (fun _ M1 h => ?_)
    refine And.intro (rs_ob hs) ?_
    refine And.intro (xi_stv (rs_37 hs) (h.1) (by decide)) ?_
    replace h := h.2
    obtain ⟨M2, hM2⟩ : ∃ z : xM, z = xup M1 96 x1 (1 : Int) := ⟨_, rfl⟩
    refine xgo_st (e := e) (M := M2) (by subst hM2; rfl) ?_
    replace h := h M2 hM2
    refine And.intro (rs_ob hs) ?_
    refine And.intro (rs_ob hs) ?_
    refine And.intro (xi_stv (rs_38 hs) (h.1.1) (h.1.2)) ?_
    replace h := h.2
    obtain ⟨M3, hM3⟩ : ∃ z : xM, z = xup M2 97 x1 (M2 59 45) := ⟨_, rfl⟩
    refine xgo_st (e := e) (M := M3) (by subst hM3; rfl) ?_
    replace h := h M3 hM3
    exact h
theorem t_look_37 {e : yE} {d : Nat} {x1 x2 : Int} {M : xM} {Q : xM → Prop} (hs : RSh e) (h :
    (rg x2) ∧ (((5 : Int) ≤ x2 → 
      (Q M)) ∧ 
    (¬ ((5 : Int) ≤ x2) → 
      ((0 ≤ x2 ∧ x2 < 5) ∧ 
      ((0 ≤ (((5 : Int) * x1) + x2) ∧ (((5 : Int) * x1) + x2) < 100) ∧ 
      (∀ M1 : xM, M1 = xup M 98 (((5 : Int) * x1) + x2) (M 94 x2) → 
      (R_look_37 e d x1 (x2 + 1) M1 Q))))))) : R_look_37 e d x1 x2 M Q := by
  refine xGo.in ?_
  refine And.intro (⟨h.1, rg_lit (by decide)⟩) (And.intro (fun c => ?_) (fun c => ?_))
  · replace h := h.2.1 c
    exact yV_ret (r := .inl 0) h
  · replace h := h.2.2 c
    refine And.intro (rs_ob hs) ?_
    refine And.intro (rs_ob hs) ?_
    refine And.intro (xi_ld (rs_35 hs) (h.1)) ?_
    replace h := h.2
    refine And.intro (xi_st (rs_39 hs) (h.1)) ?_
    replace h := h.2
    obtain ⟨M1, hM1⟩ : ∃ z : xM, z = xup M 98 (((5 : Int) * x1) + x2) (M 94 x2) := ⟨_, rfl⟩
    refine xgo_st (e := e) (M := M1) (by subst hM1; rfl) ?_
    replace h := h M1 hM1
    exact h
theorem t_look {e : yE} {d : Nat} {x1 : Int} {M : xM} {Q : xM → Prop} (h : R_look_0 e d x1 M Q) : R_look e (d + 1) x1 M Q := h _
def R_forget_0 (e : yE) (d : Nat) (M : xM) (Q : xM → Prop) : Prop := ∀ (o1 : Option xV), xGo xft xNf xmt xtr d 150 0 [some (.inr (some 59)), o1] [] (yS e M) (yV e Q)
def R_forget_2 (e : yE) (d : Nat) (x1 : Int) (M : xM) (Q : xM → Prop) : Prop := xGo xft xNf xmt xtr d 150 2 [some (.inr (some 59)), some (.inl x1)] [] (yS e M) (yV e Q)
theorem t_forget_0 {e : yE} {d : Nat} {M : xM} {Q : xM → Prop} (hs : RSh e) (h :
    R_forget_2 e d (0 : Int) M Q) : R_forget_0 e d  M Q := by
  intro o1
  refine xGo.in ?_
  exact h
theorem t_forget_2 {e : yE} {d : Nat} {x1 : Int} {M : xM} {Q : xM → Prop} (hs : RSh e) (h :
    (rg x1) ∧ (((16 : Int) ≤ x1 → 
      (∀ M1 : xM, M1 = xup M 81 (16 : Int) (0 : Int) → 
      (∀ M2 : xM, M2 = xup M1 81 (17 : Int) (0 : Int) → 
      (Q M2)))) ∧ 
    (¬ ((16 : Int) ≤ x1) → 
      ((0 ≤ x1 ∧ x1 < 18) ∧ 
      (∀ M3 : xM, M3 = xup M 81 x1 (-1 : Int) → 
      (R_forget_2 e d (x1 + 1) M3 Q)))))) : R_forget_2 e d x1 M Q := by
  refine xGo.in ?_
  refine And.intro (⟨h.1, rg_lit (by decide)⟩) (And.intro (fun c => ?_) (fun c => ?_))
  · replace h := h.2.1 c
    refine And.intro (rs_ob hs) ?_
    refine And.intro (xi_st (rs_22 hs) (⟨by decide, by decide⟩)) ?_
    obtain ⟨M1, hM1⟩ : ∃ z : xM, z = xup M 81 (16 : Int) (0 : Int) := ⟨_, rfl⟩
    refine xgo_st (e := e) (M := M1) (by subst hM1; rfl) ?_
    replace h := h M1 hM1
    refine And.intro (rs_ob hs) ?_
    refine And.intro (xi_st (rs_22 hs) (⟨by decide, by decide⟩)) ?_
    obtain ⟨M2, hM2⟩ : ∃ z : xM, z = xup M1 81 (17 : Int) (0 : Int) := ⟨_, rfl⟩
    refine xgo_st (e := e) (M := M2) (by subst hM2; rfl) ?_
    replace h := h M2 hM2
    exact yV_ret (r := .inl 0) h
  · replace h := h.2.2 c
    refine And.intro (rs_ob hs) ?_
    refine And.intro (xi_st (rs_22 hs) (h.1)) ?_
    replace h := h.2
    obtain ⟨M3, hM3⟩ : ∃ z : xM, z = xup M 81 x1 (-1 : Int) := ⟨_, rfl⟩
    refine xgo_st (e := e) (M := M3) (by subst hM3; rfl) ?_
    replace h := h M3 hM3
    exact h
theorem t_forget {e : yE} {d : Nat} {M : xM} {Q : xM → Prop} (h : R_forget_0 e d  M Q) : R_forget e (d + 1)  M Q := h _
def R_run_0 (e : yE) (d : Nat) (x1 x2 x3 x4 : Int) (M : xM) (Q : Int → xM → Prop) : Prop := ∀ (o5 o6 o7 : Option xV), xGo xft xNf xmt xtr d 151 0 [some (.inr (some 59)), some (.inl x1), some (.inl x2), some (.inl x3), some (.inl x4), o5, o6, o7] [] (yS e M) (yI e Q)
def R_run_15 (e : yE) (d : Nat) (x1 x2 x3 x4 x5 x6 : Int) (M : xM) (Q : Int → xM → Prop) : Prop := ∀ (o7 : Option xV), xGo xft xNf xmt xtr d 151 15 [some (.inr (some 59)), some (.inl x1), some (.inl x2), some (.inl x3), some (.inl x4), some (.inl x5), some (.inl x6), o7] [] (yS e M) (yI e Q)
def R_run_63 (e : yE) (d : Nat) (x1 x2 x3 x4 x5 : Int) (M : xM) (Q : Int → xM → Prop) : Prop := ∀ (o6 o7 : Option xV), xGo xft xNf xmt xtr d 151 63 [some (.inr (some 59)), some (.inl x1), some (.inl x2), some (.inl x3), some (.inl x4), some (.inl x5), o6, o7] [] (yS e M) (yI e Q)
def R_run_134 (e : yE) (d : Nat) (x1 x2 x3 x4 x6 : Int) (M : xM) (Q : Int → xM → Prop) : Prop := ∀ (o5 o7 : Option xV), xGo xft xNf xmt xtr d 151 134 [some (.inr (some 59)), some (.inl x1), some (.inl x2), some (.inl x3), some (.inl x4), o5, some (.inl x6), o7] [] (yS e M) (yI e Q)
def R_run_162 (e : yE) (d : Nat) (x6 x7 : Int) (M : xM) (Q : Int → xM → Prop) : Prop := ∀ (o1 o2 o3 o4 o5 : Option xV), xGo xft xNf xmt xtr d 151 162 [some (.inr (some 59)), o1, o2, o3, o4, o5, some (.inl x6), some (.inl x7)] [] (yS e M) (yI e Q)
theorem t_run_0 {e : yE} {d : Nat} {x1 x2 x3 x4 : Int} {M : xM} {Q : Int → xM → Prop} (hs : RSh e) (h :
    ∀ M1 : xM, M1 = xup M 59 0 (0 : Int) → 
    (R_isMatch e d x1 M1 (fun y3 M2 => 
    R_run_15 e d x1 x2 x3 x4 y3 (0 : Int) M2 Q))) : R_run_0 e d x1 x2 x3 x4 M Q := by
  intro o5 o6 o7
  refine xGo.in ?_
  refine And.intro (rs_ob hs) ?_
  obtain ⟨M1, hM1⟩ : ∃ z : xM, z = xup M 59 0 (0 : Int) := ⟨_, rfl⟩
  refine xgo_st (e := e) (M := M1) (by subst hM1; rfl) ?_
  replace h := h M1 hM1
  refine And.intro ⟨Nat.le_of_ble_eq_true rfl, Nat.le_of_ble_eq_true rfl, rs_ob hs⟩ ?_
  refine yI_use h (fun y3 M2 h => ?_)
  exact h _
theorem t_run_15 {e : yE} {d : Nat} {x1 x2 x3 x4 x5 x6 : Int} {M : xM} {Q : Int → xM → Prop} (hs : RSh e) (h :
    (rg x5) ∧ ((x5 = 0 → 
      (R_run_63 e d x1 x2 x3 x4 x5 M Q)) ∧ 
    (¬ (x5 = 0) → 
      ((0 ≤ x1 ∧ x1 < 20) ∧ 
      ((rg x6 ∧ rg (M 75 x1)) ∧ (((M 75 x1) ≤ x6 → 
        (R_run_63 e d x1 x2 x3 x4 x5 M Q)) ∧ 
      (¬ ((M 75 x1) ≤ x6) → 
        (R_pick e d x6 x2 x3 x4 M (fun y2 M1 => 
        (0 ≤ (((3 : Int) * x1) + x6) ∧ (((3 : Int) * x1) + x6) < 60) ∧ 
        (R_isValueOf e d y2 (M1 76 (((3 : Int) * x1) + x6)) M1 (fun y4 M3 => 
        R_run_15 e d x1 x2 x3 x4 y4 (x6 + 1) M3 Q))))))))))) : R_run_15 e d x1 x2 x3 x4 x5 x6 M Q := by
  intro o7
  refine xGo.in ?_
  refine And.intro (h.1) (And.intro (fun c => ?_) (fun c => ?_))
  · replace h := h.2.1 c
    exact h _ _
  · replace h := h.2.2 c
    refine And.intro (rs_ob hs) ?_
    refine And.intro (xi_ld (rs_16 hs) (h.1)) ?_
    replace h := h.2
    refine And.intro (⟨h.1.1, h.1.2⟩) (And.intro (fun c => ?_) (fun c => ?_))
    · replace h := h.2.1 c
      exact h _ _
    · replace h := h.2.2 c
      refine And.intro ⟨Nat.le_of_ble_eq_true rfl, Nat.le_of_ble_eq_true rfl, trivial⟩ ?_
      refine yI_use h (fun y2 M1 h => ?_)
      refine And.intro (rs_ob hs) ?_
      refine And.intro (xi_ld (rs_17 hs) (h.1)) ?_
      replace h := h.2
      refine And.intro ⟨Nat.le_of_ble_eq_true rfl, Nat.le_of_ble_eq_true rfl, rs_ob hs⟩ ?_
      refine yI_use h (fun y4 M3 h => ?_)
      exact h _
theorem t_run_63 {e : yE} {d : Nat} {x1 x2 x3 x4 x5 : Int} {M : xM} {Q : Int → xM → Prop} (hs : RSh e) (h :
    (rg x5) ∧ ((¬ x5 = 0 → 
      (R_look e d x1 M (fun M1 => 
      (0 ≤ x1 ∧ x1 < 20) ∧ 
      ((rg (M1 97 x1)) ∧ (((M1 97 x1) = 0 → 
        (R_forget e d  M1 (fun M2 => 
        R_goThrough e d x1 (1 : Int) x2 x3 x4 M2 (fun M3 => 
        ∀ M4 : xM, M4 = xup M3 81 (16 : Int) (M3 94 (0 : Int)) → 
        (∀ M5 : xM, M5 = xup M4 81 (17 : Int) (M4 94 (1 : Int)) → 
        (R_run_134 e d x1 x2 x3 x4 (0 : Int) M5 Q)))))) ∧ 
      (¬ ((M1 97 x1) = 0) → 
        (Q (-2 : Int) M1))))))) ∧ 
    (¬ (¬ x5 = 0) → 
      (R_forget e d  M (fun M6 => 
      Q (-1 : Int) M6))))) : R_run_63 e d x1 x2 x3 x4 x5 M Q := by
  intro o6 o7
  refine xGo.in ?_
  refine And.intro (h.1) (And.intro (fun c => ?_) (fun c => ?_))
  · replace h := h.2.1 c
    refine And.intro ⟨Nat.le_of_ble_eq_true rfl, Nat.le_of_ble_eq_true rfl, rs_ob hs⟩ ?_
    refine yV_use h (fun _ M1 h => ?_)
    refine And.intro (rs_ob hs) ?_
    refine And.intro (xi_ldb (rs_38 hs) (h.1)) ?_
    replace h := h.2
    refine And.intro (h.1) (And.intro (fun c => ?_) (fun c => ?_))
    · replace h := h.2.1 c
      refine And.intro ⟨Nat.le_of_ble_eq_true rfl, Nat.le_of_ble_eq_true rfl, rs_ob hs⟩ ?_
      refine yV_use h (fun _ M2 h => ?_)
      refine And.intro ⟨Nat.le_of_ble_eq_true rfl, Nat.le_of_ble_eq_true rfl, rs_ob hs⟩ ?_
      refine yV_use h (fun _ M3 h => ?_)
      refine And.intro (rs_ob hs) ?_
      refine And.intro (rs_ob hs) ?_
      refine And.intro (xi_ld (rs_35 hs) (⟨by decide, by decide⟩)) ?_
      refine And.intro (xi_st (rs_22 hs) (⟨by decide, by decide⟩)) ?_
      obtain ⟨M4, hM4⟩ : ∃ z : xM, z = xup M3 81 (16 : Int) (M3 94 (0 : Int)) := ⟨_, rfl⟩
      refine xgo_st (e := e) (M := M4) (by subst hM4; rfl) ?_
      replace h := h M4 hM4
      refine And.intro (rs_ob hs) ?_
      refine And.intro (rs_ob hs) ?_
      refine And.intro (xi_ld (rs_35 hs) (⟨by decide, by decide⟩)) ?_
      refine And.intro (xi_st (rs_22 hs) (⟨by decide, by decide⟩)) ?_
      obtain ⟨M5, hM5⟩ : ∃ z : xM, z = xup M4 81 (17 : Int) (M4 94 (1 : Int)) := ⟨_, rfl⟩
      refine xgo_st (e := e) (M := M5) (by subst hM5; rfl) ?_
      replace h := h M5 hM5
      exact h _ _
    · replace h := h.2.2 c
      exact yI_ret h
  · replace h := h.2.2 c
    refine And.intro ⟨Nat.le_of_ble_eq_true rfl, Nat.le_of_ble_eq_true rfl, rs_ob hs⟩ ?_
    refine yV_use h (fun _ M6 h => ?_)
    exact yI_ret h
theorem t_run_134 {e : yE} {d : Nat} {x1 x2 x3 x4 x6 : Int} {M : xM} {Q : Int → xM → Prop} (hs : RSh e) (h :
    (0 ≤ x1 ∧ x1 < 20) ∧ 
    ((rg x6 ∧ rg (M 77 x1)) ∧ (((M 77 x1) ≤ x6 → 
      (Q (-1 : Int) M)) ∧ 
    (¬ ((M 77 x1) ≤ x6) → 
      (R_takes e d x1 x6 x2 x3 x4 M (fun y2 M1 => 
      (rg y2) ∧ ((y2 = 0 → 
        (R_run_134 e d x1 x2 x3 x4 (x6 + 1) M1 Q)) ∧ 
      (¬ (y2 = 0) → 
        (R_run_162 e d x6 (0 : Int) M1 Q))))))))) : R_run_134 e d x1 x2 x3 x4 x6 M Q := by
  intro o5 o7
  refine xGo.in ?_
  refine And.intro (rs_ob hs) ?_
  refine And.intro (xi_ld (rs_18 hs) (h.1)) ?_
  replace h := h.2
  refine And.intro (⟨h.1.1, h.1.2⟩) (And.intro (fun c => ?_) (fun c => ?_))
  · replace h := h.2.1 c
    exact yI_ret h
  · replace h := h.2.2 c
    refine And.intro ⟨Nat.le_of_ble_eq_true rfl, Nat.le_of_ble_eq_true rfl, rs_ob hs⟩ ?_
    refine yI_use h (fun y2 M1 h => ?_)
    refine And.intro (h.1) (And.intro (fun c => ?_) (fun c => ?_))
    · replace h := h.2.1 c
      exact h _ _
    · replace h := h.2.2 c
      exact h _ _ _ _ _
theorem t_run_162 {e : yE} {d : Nat} {x6 x7 : Int} {M : xM} {Q : Int → xM → Prop} (hs : RSh e) (h :
    (rg x7) ∧ (((16 : Int) ≤ x7 → 
      (Q x6 M)) ∧ 
    (¬ ((16 : Int) ≤ x7) → 
      ((0 ≤ x7 ∧ x7 < 16) ∧ 
      ((0 ≤ x7 ∧ x7 < 18) ∧ 
      (∀ M1 : xM, M1 = xup M 81 x7 (M 82 x7) → 
      (R_run_162 e d x6 (x7 + 1) M1 Q))))))) : R_run_162 e d x6 x7 M Q := by
  intro o1 o2 o3 o4 o5
  refine xGo.in ?_
  refine And.intro (⟨h.1, rg_lit (by decide)⟩) (And.intro (fun c => ?_) (fun c => ?_))
  · replace h := h.2.1 c
    exact yI_ret h
  · replace h := h.2.2 c
    refine And.intro (rs_ob hs) ?_
    refine And.intro (rs_ob hs) ?_
    refine And.intro (xi_ld (rs_23 hs) (h.1)) ?_
    replace h := h.2
    refine And.intro (xi_st (rs_22 hs) (h.1)) ?_
    replace h := h.2
    obtain ⟨M1, hM1⟩ : ∃ z : xM, z = xup M 81 x7 (M 82 x7) := ⟨_, rfl⟩
    refine xgo_st (e := e) (M := M1) (by subst hM1; rfl) ?_
    replace h := h M1 hM1
    exact h _ _ _ _ _
theorem t_run {e : yE} {d : Nat} {x1 : Int} {x2 : Int} {x3 : Int} {x4 : Int} {M : xM} {Q : Int → xM → Prop} (h : R_run_0 e d x1 x2 x3 x4 M Q) : R_run e (d + 1) x1 x2 x3 x4 M Q := h _ _ _
def R_took_0 (e : yE) (d : Nat) (x1 : Int) (M : xM) (Q : Int → xM → Prop) : Prop := xGo xft xNf xmt xtr d 152 0 [some (.inr (some 59)), some (.inl x1)] [] (yS e M) (yI e Q)
theorem t_took_0 {e : yE} {d : Nat} {x1 : Int} {M : xM} {Q : Int → xM → Prop} (hs : RSh e) (h :
    ∀ M1 : xM, M1 = xup M 59 0 (0 : Int) → 
    ((rg x1) ∧ ((x1 < 0 → 
      (Q (-1 : Int) M1)) ∧ 
    (¬ (x1 < 0) → 
      ((rg x1) ∧ (((18 : Int) ≤ x1 → 
        (Q (-1 : Int) M1)) ∧ 
      (¬ ((18 : Int) ≤ x1) → 
        ((0 ≤ x1 ∧ x1 < 18) ∧ 
        (Q (M1 81 x1) M1))))))))) : R_took_0 e d x1 M Q := by
  refine xGo.in ?_
  refine And.intro (rs_ob hs) ?_
  obtain ⟨M1, hM1⟩ : ∃ z : xM, z = xup M 59 0 (0 : Int) := ⟨_, rfl⟩
  refine xgo_st (e := e) (M := M1) (by subst hM1; rfl) ?_
  replace h := h M1 hM1
  refine And.intro (h.1) (And.intro (fun c => ?_) (fun c => ?_))
  · replace h := h.2.1 c
    exact yI_ret h
  · replace h := h.2.2 c
    refine And.intro (⟨h.1, rg_lit (by decide)⟩) (And.intro (fun c => ?_) (fun c => ?_))
    · replace h := h.2.1 c
      exact yI_ret h
    · replace h := h.2.2 c
      refine And.intro (rs_ob hs) ?_
      refine And.intro (xi_ld (rs_22 hs) (h.1)) ?_
      replace h := h.2
      exact yI_ret h
theorem t_took {e : yE} {d : Nat} {x1 : Int} {M : xM} {Q : Int → xM → Prop} (h : R_took_0 e d x1 M Q) : R_took e (d + 1) x1 M Q := h
def R_tree_0 (e : yE) (d : Nat) (x1 x2 : Int) (M : xM) (Q : Int → xM → Prop) : Prop := xGo xft xNf xmt xtr d 153 0 [some (.inr (some 59)), some (.inl x1), some (.inl x2)] [] (yS e M) (yI e Q)
theorem t_tree_0 {e : yE} {d : Nat} {x1 x2 : Int} {M : xM} {Q : Int → xM → Prop} (hs : RSh e) (h :
    ∀ M1 : xM, M1 = xup M 59 0 (0 : Int) → 
    (R_isMatch e d x1 M1 (fun y3 M2 => 
    (rg y3) ∧ ((y3 = 0 → 
      (Q (-1 : Int) M2)) ∧ 
    (¬ (y3 = 0) → 
      ((rg x2) ∧ ((x2 < 0 → 
        (Q (-1 : Int) M2)) ∧ 
      (¬ (x2 < 0) → 
        ((rg x2) ∧ ((x2 ≤ (4 : Int) → 
          (R_look e d x1 M2 (fun M4 => 
          (0 ≤ x1 ∧ x1 < 20) ∧ 
          ((rg (M4 97 x1)) ∧ (((M4 97 x1) = 0 → 
            ((0 ≤ (((5 : Int) * x1) + x2) ∧ (((5 : Int) * x1) + x2) < 100) ∧ 
            (Q (M4 98 (((5 : Int) * x1) + x2)) M4))) ∧ 
          (¬ ((M4 97 x1) = 0) → 
            (Q (-2 : Int) M4))))))) ∧ 
        (¬ (x2 ≤ (4 : Int)) → 
          (Q (-1 : Int) M2)))))))))))) : R_tree_0 e d x1 x2 M Q := by
  refine xGo.in ?_
  refine And.intro (rs_ob hs) ?_
  obtain ⟨M1, hM1⟩ : ∃ z : xM, z = xup M 59 0 (0 : Int) := ⟨_, rfl⟩
  refine xgo_st (e := e) (M := M1) (by subst hM1; rfl) ?_
  replace h := h M1 hM1
  refine And.intro ⟨Nat.le_of_ble_eq_true rfl, Nat.le_of_ble_eq_true rfl, rs_ob hs⟩ ?_
  refine yI_use h (fun y3 M2 h => ?_)
  refine And.intro (h.1) (And.intro (fun c => ?_) (fun c => ?_))
  · replace h := h.2.1 c
    exact yI_ret h
  · replace h := h.2.2 c
    refine And.intro (h.1) (And.intro (fun c => ?_) (fun c => ?_))
    · replace h := h.2.1 c
      exact yI_ret h
    · replace h := h.2.2 c
      refine And.intro (⟨h.1, rg_lit (by decide)⟩) (And.intro (fun c => ?_) (fun c => ?_))
      · replace h := h.2.1 c
        refine And.intro ⟨Nat.le_of_ble_eq_true rfl, Nat.le_of_ble_eq_true rfl, rs_ob hs⟩ ?_
        refine yV_use h (fun _ M4 h => ?_)
        refine And.intro (rs_ob hs) ?_
        refine And.intro (xi_ldb (rs_38 hs) (h.1)) ?_
        replace h := h.2
        refine And.intro (h.1) (And.intro (fun c => ?_) (fun c => ?_))
        · replace h := h.2.1 c
          refine And.intro (rs_ob hs) ?_
          refine And.intro (xi_ld (rs_39 hs) (h.1)) ?_
          replace h := h.2
          exact yI_ret h
        · replace h := h.2.2 c
          exact yI_ret h
      · replace h := h.2.2 c
        exact yI_ret h
theorem t_tree {e : yE} {d : Nat} {x1 : Int} {x2 : Int} {M : xM} {Q : Int → xM → Prop} (h : R_tree_0 e d x1 x2 M Q) : R_tree e (d + 1) x1 x2 M Q := h
def R_missing_0 (e : yE) (d : Nat) (x1 : Int) (M : xM) (Q : Int → xM → Prop) : Prop := ∀ (o2 : Option xV), xGo xft xNf xmt xtr d 154 0 [some (.inr (some 59)), some (.inl x1), o2] [] (yS e M) (yI e Q)
def R_missing_59 (e : yE) (d : Nat) (x2 : Int) (M : xM) (Q : Int → xM → Prop) : Prop := ∀ (o1 : Option xV), xGo xft xNf xmt xtr d 154 59 [some (.inr (some 59)), o1, some (.inl x2)] [] (yS e M) (yI e Q)
theorem t_missing_0 {e : yE} {d : Nat} {x1 : Int} {M : xM} {Q : Int → xM → Prop} (hs : RSh e) (h :
    ∀ M1 : xM, M1 = xup M 59 0 (0 : Int) → 
    (R_isMatch e d x1 M1 (fun y3 M2 => 
    (rg y3) ∧ ((¬ y3 = 0 → 
      (∀ M4 : xM, M4 = xup M2 59 50 (0 : Int) → 
      (R_goThrough e d x1 (0 : Int) (-1 : Int) (-1 : Int) (-1 : Int) M4 (fun M5 => 
      (rg (M5 59 45)) ∧ ((¬ (M5 59 45) = 0 → 
        (Q (-2 : Int) M5)) ∧ 
      (¬ (¬ (M5 59 45) = 0) → 
        ((rg (M5 59 50)) ∧ (((M5 59 50) ≤ (4000 : Int) → 
          (∀ M6 : xM, M6 = xup M5 59 55 (M5 59 50) → 
          (R_missing_59 e d (0 : Int) M6 Q))) ∧ 
        (¬ ((M5 59 50) ≤ (4000 : Int)) → 
          (Q (-2 : Int) M5)))))))))) ∧ 
    (¬ (¬ y3 = 0) → 
      (Q (-1 : Int) M2)))))) : R_missing_0 e d x1 M Q := by
  intro o2
  refine xGo.in ?_
  refine And.intro (rs_ob hs) ?_
  obtain ⟨M1, hM1⟩ : ∃ z : xM, z = xup M 59 0 (0 : Int) := ⟨_, rfl⟩
  refine xgo_st (e := e) (M := M1) (by subst hM1; rfl) ?_
  replace h := h M1 hM1
  refine And.intro ⟨Nat.le_of_ble_eq_true rfl, Nat.le_of_ble_eq_true rfl, rs_ob hs⟩ ?_
  refine yI_use h (fun y3 M2 h => ?_)
  refine And.intro (h.1) (And.intro (fun c => ?_) (fun c => ?_))
  · replace h := h.2.1 c
    refine And.intro (rs_ob hs) ?_
    obtain ⟨M4, hM4⟩ : ∃ z : xM, z = xup M2 59 50 (0 : Int) := ⟨_, rfl⟩
    refine xgo_st (e := e) (M := M4) (by subst hM4; rfl) ?_
    replace h := h M4 hM4
    refine And.intro ⟨Nat.le_of_ble_eq_true rfl, Nat.le_of_ble_eq_true rfl, rs_ob hs⟩ ?_
    refine yV_use h (fun _ M5 h => ?_)
    refine And.intro (rs_ob hs) ?_
    refine And.intro (h.1) (And.intro (fun c => ?_) (fun c => ?_))
    · replace h := h.2.1 c
      exact yI_ret h
    · replace h := h.2.2 c
      refine And.intro (rs_ob hs) ?_
      refine And.intro (⟨h.1, rg_lit (by decide)⟩) (And.intro (fun c => ?_) (fun c => ?_))
      · replace h := h.2.1 c
        refine And.intro (rs_ob hs) ?_
        refine And.intro (rs_ob hs) ?_
        obtain ⟨M6, hM6⟩ : ∃ z : xM, z = xup M5 59 55 (M5 59 50) := ⟨_, rfl⟩
        refine xgo_st (e := e) (M := M6) (by subst hM6; rfl) ?_
        replace h := h M6 hM6
        exact h _
      · replace h := h.2.2 c
        exact yI_ret h
  · replace h := h.2.2 c
    exact yI_ret h
theorem t_missing_59 {e : yE} {d : Nat} {x2 : Int} {M : xM} {Q : Int → xM → Prop} (hs : RSh e) (h :
    (rg x2 ∧ rg (M 59 50)) ∧ (((M 59 50) ≤ x2 → 
      (Q (M 59 55) M)) ∧ 
    (¬ ((M 59 50) ≤ x2) → 
      ((0 ≤ x2 ∧ x2 < 4001) ∧ 
      ((0 ≤ x2 ∧ x2 < 4000) ∧ 
      (∀ M1 : xM, M1 = xup M 99 x2 (M 95 x2) → 
      (R_missing_59 e d (x2 + 1) M1 Q))))))) : R_missing_59 e d x2 M Q := by
  intro o1
  refine xGo.in ?_
  refine And.intro (rs_ob hs) ?_
  refine And.intro (⟨h.1.1, h.1.2⟩) (And.intro (fun c => ?_) (fun c => ?_))
  · replace h := h.2.1 c
    refine And.intro (rs_ob hs) ?_
    exact yI_ret h
  · replace h := h.2.2 c
    refine And.intro (rs_ob hs) ?_
    refine And.intro (rs_ob hs) ?_
    refine And.intro (xi_ld (rs_36 hs) (h.1)) ?_
    replace h := h.2
    refine And.intro (xi_st (rs_40 hs) (h.1)) ?_
    replace h := h.2
    obtain ⟨M1, hM1⟩ : ∃ z : xM, z = xup M 99 x2 (M 95 x2) := ⟨_, rfl⟩
    refine xgo_st (e := e) (M := M1) (by subst hM1; rfl) ?_
    replace h := h M1 hM1
    exact h _
theorem t_missing {e : yE} {d : Nat} {x1 : Int} {M : xM} {Q : Int → xM → Prop} (h : R_missing_0 e d x1 M Q) : R_missing e (d + 1) x1 M Q := h _
def R_part_0 (e : yE) (d : Nat) (x1 : Int) (M : xM) (Q : Int → xM → Prop) : Prop := xGo xft xNf xmt xtr d 155 0 [some (.inr (some 59)), some (.inl x1)] [] (yS e M) (yI e Q)
theorem t_part_0 {e : yE} {d : Nat} {x1 : Int} {M : xM} {Q : Int → xM → Prop} (hs : RSh e) (h :
    ∀ M1 : xM, M1 = xup M 59 0 (0 : Int) → 
    ((rg x1) ∧ ((x1 < 0 → 
      (Q (-1 : Int) M1)) ∧ 
    (¬ (x1 < 0) → 
      ((rg x1 ∧ rg (M1 59 55)) ∧ (((M1 59 55) ≤ x1 → 
        (Q (-1 : Int) M1)) ∧ 
      (¬ ((M1 59 55) ≤ x1) → 
        ((0 ≤ x1 ∧ x1 < 4000) ∧ 
        (Q (M1 99 x1) M1))))))))) : R_part_0 e d x1 M Q := by
  refine xGo.in ?_
  refine And.intro (rs_ob hs) ?_
  obtain ⟨M1, hM1⟩ : ∃ z : xM, z = xup M 59 0 (0 : Int) := ⟨_, rfl⟩
  refine xgo_st (e := e) (M := M1) (by subst hM1; rfl) ?_
  replace h := h M1 hM1
  refine And.intro (h.1) (And.intro (fun c => ?_) (fun c => ?_))
  · replace h := h.2.1 c
    exact yI_ret h
  · replace h := h.2.2 c
    refine And.intro (rs_ob hs) ?_
    refine And.intro (⟨h.1.1, h.1.2⟩) (And.intro (fun c => ?_) (fun c => ?_))
    · replace h := h.2.1 c
      exact yI_ret h
    · replace h := h.2.2 c
      refine And.intro (rs_ob hs) ?_
      refine And.intro (xi_ld (rs_40 hs) (h.1)) ?_
      replace h := h.2
      exact yI_ret h
theorem t_part {e : yE} {d : Nat} {x1 : Int} {M : xM} {Q : Int → xM → Prop} (h : R_part_0 e d x1 M Q) : R_part e (d + 1) x1 M Q := h
def R_plain_0 (e : yE) (d : Nat) (x1 : Int) (M : xM) (Q : Int → xM → Prop) : Prop := xGo xft xNf xmt xtr d 156 0 [some (.inr (some 59)), some (.inl x1)] [] (yS e M) (yI e Q)
theorem t_plain_0 {e : yE} {d : Nat} {x1 : Int} {M : xM} {Q : Int → xM → Prop} (hs : RSh e) (h :
    ∀ M1 : xM, M1 = xup M 59 0 (0 : Int) → 
    (R_isType e d x1 M1 (fun y3 M2 => 
    (rg y3) ∧ ((y3 = 0 → 
      (Q (-1 : Int) M2)) ∧ 
    (¬ (y3 = 0) → 
      ((0 ≤ x1 ∧ x1 < 8) ∧ 
      (Q (M2 63 x1) M2))))))) : R_plain_0 e d x1 M Q := by
  refine xGo.in ?_
  refine And.intro (rs_ob hs) ?_
  obtain ⟨M1, hM1⟩ : ∃ z : xM, z = xup M 59 0 (0 : Int) := ⟨_, rfl⟩
  refine xgo_st (e := e) (M := M1) (by subst hM1; rfl) ?_
  replace h := h M1 hM1
  refine And.intro ⟨Nat.le_of_ble_eq_true rfl, Nat.le_of_ble_eq_true rfl, rs_ob hs⟩ ?_
  refine yI_use h (fun y3 M2 h => ?_)
  refine And.intro (h.1) (And.intro (fun c => ?_) (fun c => ?_))
  · replace h := h.2.1 c
    exact yI_ret h
  · replace h := h.2.2 c
    refine And.intro (rs_ob hs) ?_
    refine And.intro (xi_ld (rs_4 hs) (h.1)) ?_
    replace h := h.2
    exact yI_ret h
theorem t_plain {e : yE} {d : Nat} {x1 : Int} {M : xM} {Q : Int → xM → Prop} (h : R_plain_0 e d x1 M Q) : R_plain e (d + 1) x1 M Q := h
def R_sumOf_0 (e : yE) (d : Nat) (a0 : Nat) (n0 : Nat) (x1 : Int) (M : xM) (Q : Int → xM → Prop) : Prop := ∀ (o2 o3 : Option xV), xGo xft xNf xmt xtr d 157 0 [some (.inr (some a0)), some (.inl x1), o2, o3] [] (yS e M) (yI e Q)
def R_sumOf_4 (e : yE) (d : Nat) (a0 : Nat) (n0 : Nat) (x1 x2 x3 : Int) (M : xM) (Q : Int → xM → Prop) : Prop := xGo xft xNf xmt xtr d 157 4 [some (.inr (some a0)), some (.inl x1), some (.inl x2), some (.inl x3)] [] (yS e M) (yI e Q)
theorem t_sumOf_0 {e : yE} {d : Nat} {a0 : Nat} {n0 : Nat} {x1 : Int} {M : xM} {Q : Int → xM → Prop} (ha0 : yAr e a0 n0) (h :
    R_sumOf_4 e d a0 n0 x1 (0 : Int) (0 : Int) M Q) : R_sumOf_0 e d a0 n0 x1 M Q := by
  intro o2 o3
  refine xGo.in ?_
  exact h
theorem t_sumOf_4 {e : yE} {d : Nat} {a0 : Nat} {n0 : Nat} {x1 x2 x3 : Int} {M : xM} {Q : Int → xM → Prop} (ha0 : yAr e a0 n0) (h :
    (rg x3 ∧ rg x1) ∧ ((x1 ≤ x3 → 
      (Q x2 M)) ∧ 
    (¬ (x1 ≤ x3) → 
      ((0 ≤ x3 ∧ x3 < (n0 : Int)) ∧ 
      (R_sumOf_4 e d a0 n0 x1 (x2 + (M a0 x3)) (x3 + 1) M Q))))) : R_sumOf_4 e d a0 n0 x1 x2 x3 M Q := by
  refine xGo.in ?_
  refine And.intro (⟨h.1.1, h.1.2⟩) (And.intro (fun c => ?_) (fun c => ?_))
  · replace h := h.2.1 c
    exact yI_ret h
  · replace h := h.2.2 c
    refine And.intro (xi_ld (ha0) (h.1)) ?_
    replace h := h.2
    exact h
theorem t_sumOf {e : yE} {d : Nat} {a0 : Nat} {n0 : Nat} {x1 : Int} {M : xM} {Q : Int → xM → Prop} (h : R_sumOf_0 e d a0 n0 x1 M Q) : R_sumOf e (d + 1) a0 n0 x1 M Q := h _ _
def R_count_0 (e : yE) (d : Nat) (x1 : Int) (M : xM) (Q : Int → xM → Prop) : Prop := xGo xft xNf xmt xtr d 158 0 [some (.inr (some 59)), some (.inl x1)] [] (yS e M) (yI e Q)
theorem t_count_0 {e : yE} {d : Nat} {x1 : Int} {M : xM} {Q : Int → xM → Prop} (hs : RSh e) (h :
    ∀ M1 : xM, M1 = xup M 59 0 (0 : Int) → 
    ((rg x1) ∧ ((¬ x1 = 0 → 
      ((rg x1) ∧ ((¬ x1 = (1 : Int) → 
        ((rg x1) ∧ ((¬ x1 = (2 : Int) → 
          ((rg x1) ∧ ((¬ x1 = (3 : Int) → 
            ((rg x1) ∧ ((¬ x1 = (4 : Int) → 
              ((rg x1) ∧ ((¬ x1 = (5 : Int) → 
                (Q (-1 : Int) M1)) ∧ 
              (¬ (¬ x1 = (5 : Int)) → 
                (R_sumOf e d 77 20 (M1 59 25) M1 (fun y3 M2 => 
                Q y3 M2)))))) ∧ 
            (¬ (¬ x1 = (4 : Int)) → 
              (Q (M1 59 25) M1))))) ∧ 
          (¬ (¬ x1 = (3 : Int)) → 
            (Q (M1 59 18) M1))))) ∧ 
        (¬ (¬ x1 = (2 : Int)) → 
          (Q (M1 59 10) M1))))) ∧ 
      (¬ (¬ x1 = (1 : Int)) → 
        (R_sumOf e d 60 8 (8 : Int) M1 (fun y5 M4 => 
        Q y5 M4)))))) ∧ 
    (¬ (¬ x1 = 0) → 
      (Q (M1 59 1) M1))))) : R_count_0 e d x1 M Q := by
  refine xGo.in ?_
  refine And.intro (rs_ob hs) ?_
  obtain ⟨M1, hM1⟩ : ∃ z : xM, z = xup M 59 0 (0 : Int) := ⟨_, rfl⟩
  refine xgo_st (e := e) (M := M1) (by subst hM1; rfl) ?_
  replace h := h M1 hM1
  refine And.intro (h.1) (And.intro (fun c => ?_) (fun c => ?_))
  · replace h := h.2.1 c
    refine And.intro (⟨h.1, rg_lit (by decide)⟩) (And.intro (fun c => ?_) (fun c => ?_))
    · replace h := h.2.1 c
      refine And.intro (⟨h.1, rg_lit (by decide)⟩) (And.intro (fun c => ?_) (fun c => ?_))
      · replace h := h.2.1 c
        refine And.intro (⟨h.1, rg_lit (by decide)⟩) (And.intro (fun c => ?_) (fun c => ?_))
        · replace h := h.2.1 c
          refine And.intro (⟨h.1, rg_lit (by decide)⟩) (And.intro (fun c => ?_) (fun c => ?_))
          · replace h := h.2.1 c
            refine And.intro (⟨h.1, rg_lit (by decide)⟩) (And.intro (fun c => ?_) (fun c => ?_))
            · replace h := h.2.1 c
              exact yI_ret h
            · replace h := h.2.2 c
              refine And.intro (rs_ob hs) ?_
              refine And.intro (rs_ob hs) ?_
              refine And.intro ⟨Nat.le_of_ble_eq_true rfl, Nat.le_of_ble_eq_true rfl, trivial⟩ ?_
              refine yI_use h (fun y3 M2 h => ?_)
              exact yI_ret h
          · replace h := h.2.2 c
            refine And.intro (rs_ob hs) ?_
            exact yI_ret h
        · replace h := h.2.2 c
          refine And.intro (rs_ob hs) ?_
          exact yI_ret h
      · replace h := h.2.2 c
        refine And.intro (rs_ob hs) ?_
        exact yI_ret h
    · replace h := h.2.2 c
      refine And.intro (rs_ob hs) ?_
      refine And.intro ⟨Nat.le_of_ble_eq_true rfl, Nat.le_of_ble_eq_true rfl, trivial⟩ ?_
      refine yI_use h (fun y5 M4 h => ?_)
      exact yI_ret h
  · replace h := h.2.2 c
    refine And.intro (rs_ob hs) ?_
    exact yI_ret h
theorem t_count {e : yE} {d : Nat} {x1 : Int} {M : xM} {Q : Int → xM → Prop} (h : R_count_0 e d x1 M Q) : R_count e (d + 1) x1 M Q := h
def R_check_0 (e : yE) (d : Nat) (M : xM) (Q : Int → xM → Prop) : Prop := xGo xft xNf xmt xtr d 159 0 [some (.inr (some 59))] [] (yS e M) (yI e Q)
theorem t_check_0 {e : yE} {d : Nat} {M : xM} {Q : Int → xM → Prop} (hs : RSh e) (h :
    ∀ M1 : xM, M1 = xup M 59 0 (0 : Int) → 
    (Q (1 : Int) M1)) : R_check_0 e d  M Q := by
  refine xGo.in ?_
  refine And.intro (rs_ob hs) ?_
  obtain ⟨M1, hM1⟩ : ∃ z : xM, z = xup M 59 0 (0 : Int) := ⟨_, rfl⟩
  refine xgo_st (e := e) (M := M1) (by subst hM1; rfl) ?_
  replace h := h M1 hM1
  exact yI_ret h
theorem t_check {e : yE} {d : Nat} {M : xM} {Q : Int → xM → Prop} (h : R_check_0 e d  M Q) : R_check e (d + 1)  M Q := h
