/-! ===== laid by dec2.py: the texts of the class's methods ===== -/
def C_Bu_stands (e : yE) (d : Nat) (a1 : Nat) (M : xM) (Q : Int → yE → xM → Prop) : Prop := xcall xft xNf xmt xtr d 1 [.inr (some 29), .inr (some a1)] (yS e M) (zI Q)
def C_Bu_begin (e : yE) (d : Nat) (a1 : Nat) (M : xM) (Q : yE → xM → Prop) : Prop := xcall xft xNf xmt xtr d 2 [.inr (some 29), .inr (some a1)] (yS e M) (zV Q)
def C_Bu_keep (e : yE) (d : Nat) (x1 : Int) (x2 : Int) (M : xM) (Q : xM → Prop) : Prop := xcall xft xNf xmt xtr d 3 [.inr (some 29), .inl x1, .inl x2] (yS e M) (yV e Q)
def C_Bu_putOff (e : yE) (d : Nat) (x1 : Int) (x2 : Int) (M : xM) (Q : xM → Prop) : Prop := xcall xft xNf xmt xtr d 4 [.inr (some 29), .inl x1, .inl x2] (yS e M) (yV e Q)
def C_Bu_loadRows (e : yE) (d : Nat) (x1 : Int) (M : xM) (Q : xM → Prop) : Prop := xcall xft xNf xmt xtr d 5 [.inr (some 29), .inl x1] (yS e M) (yV e Q)
def C_Bu_placeThatCounts (e : yE) (d : Nat) (M : xM) (Q : Int → xM → Prop) : Prop := xcall xft xNf xmt xtr d 6 [.inr (some 29)] (yS e M) (yI e Q)
def C_Bu_splitFirst (e : yE) (d : Nat) (M : xM) (Q : yE → xM → Prop) : Prop := xcall xft xNf xmt xtr d 7 [.inr (some 29)] (yS e M) (zV Q)
def C_Bu_splitAll (e : yE) (d : Nat) (x1 : Int) (M : xM) (Q : yE → xM → Prop) : Prop := xcall xft xNf xmt xtr d 8 [.inr (some 29), .inl x1] (yS e M) (zV Q)
def C_Bu_isEither (e : yE) (d : Nat) (x1 : Int) (x2 : Int) (M : xM) (Q : Int → xM → Prop) : Prop := xcall xft xNf xmt xtr d 9 [.inr (some 29), .inl x1, .inl x2] (yS e M) (yI e Q)
def C_Bu_split (e : yE) (d : Nat) (x1 : Int) (x2 : Int) (M : xM) (Q : yE → xM → Prop) : Prop := xcall xft xNf xmt xtr d 10 [.inr (some 29), .inl x1, .inl x2] (yS e M) (zV Q)
def C_Bu_patternAt (e : yE) (d : Nat) (x1 : Int) (x2 : Int) (M : xM) (Q : Int → xM → Prop) : Prop := xcall xft xNf xmt xtr d 11 [.inr (some 29), .inl x1, .inl x2] (yS e M) (yI e Q)
def C_Bu_putParts (e : yE) (d : Nat) (x1 : Int) (x2 : Int) (x3 : Int) (M : xM) (Q : Int → yE → xM → Prop) : Prop := xcall xft xNf xmt xtr d 12 [.inr (some 29), .inl x1, .inl x2, .inl x3] (yS e M) (zI Q)
def C_Bu_stripNames (e : yE) (d : Nat) (x1 : Int) (x2 : Int) (M : xM) (Q : Int → yE → xM → Prop) : Prop := xcall xft xNf xmt xtr d 13 [.inr (some 29), .inl x1, .inl x2] (yS e M) (zI Q)
def C_Bu_endNode (e : yE) (d : Nat) (x1 : Int) (M : xM) (Q : xM → Prop) : Prop := xcall xft xNf xmt xtr d 14 [.inr (some 29), .inl x1] (yS e M) (yV e Q)
def C_Bu_tellNames (e : yE) (d : Nat) (x1 : Int) (x2 : Int) (M : xM) (Q : xM → Prop) : Prop := xcall xft xNf xmt xtr d 15 [.inr (some 29), .inl x1, .inl x2] (yS e M) (yV e Q)
def C_Bu_growTest (e : yE) (d : Nat) (x1 : Int) (x2 : Int) (M : xM) (Q : yE → xM → Prop) : Prop := xcall xft xNf xmt xtr d 16 [.inr (some 29), .inl x1, .inl x2] (yS e M) (zV Q)
def C_Bu_gatherLabels (e : yE) (d : Nat) (x1 : Int) (M : xM) (Q : xM → Prop) : Prop := xcall xft xNf xmt xtr d 17 [.inr (some 29), .inl x1] (yS e M) (yV e Q)
def C_Bu_gatherLabel (e : yE) (d : Nat) (x1 : Int) (M : xM) (Q : xM → Prop) : Prop := xcall xft xNf xmt xtr d 18 [.inr (some 29), .inl x1] (yS e M) (yV e Q)
def C_Bu_leastAbsent (e : yE) (d : Nat) (M : xM) (Q : Int → xM → Prop) : Prop := xcall xft xNf xmt xtr d 19 [.inr (some 29)] (yS e M) (yI e Q)
def C_Bu_growBranch (e : yE) (d : Nat) (x1 : Int) (x2 : Int) (x3 : Int) (x4 : Int) (M : xM) (Q : yE → xM → Prop) : Prop := xcall xft xNf xmt xtr d 20 [.inr (some 29), .inl x1, .inl x2, .inl x3, .inl x4] (yS e M) (zV Q)
def C_Ce_add (e : yE) (d : Nat) (k : Nat) (x1 : Int) (x2 : Int) (x3 : Int) (M : xM) (Q : Int → yE → xM → Prop) : Prop := xcall xft xNf xmt xtr d 22 [.inr (some k), .inl x1, .inl x2, .inl x3] (yS e M) (zI Q)
def C_Ju_rowFor (e : yE) (d : Nat) (a1 : Nat) (a2 : Nat) (n2 : Nat) (M : xM) (Q : Int → xM → Prop) : Prop := xcall xft xNf xmt xtr d 24 [.inr (some 51), .inr (some a1), .inr (some a2)] (yS e M) (yI e Q)
def C_Ju_allFit (e : yE) (d : Nat) (a1 : Nat) (x2 : Int) (a3 : Nat) (n3 : Nat) (M : xM) (Q : Int → xM → Prop) : Prop := xcall xft xNf xmt xtr d 25 [.inr (some 51), .inr (some a1), .inl x2, .inr (some a3)] (yS e M) (yI e Q)
def C_Ju_holds (e : yE) (d : Nat) (a1 : Nat) (x2 : Int) (M : xM) (Q : Int → xM → Prop) : Prop := xcall xft xNf xmt xtr d 26 [.inr (some 51), .inr (some a1), .inl x2] (yS e M) (yI e Q)
def C_Ju_fits (e : yE) (d : Nat) (x1 : Int) (x2 : Int) (x3 : Int) (M : xM) (Q : Int → xM → Prop) : Prop := xcall xft xNf xmt xtr d 27 [.inr (some 51), .inl x1, .inl x2, .inl x3] (yS e M) (yI e Q)
def C_Ju_partsFit (e : yE) (d : Nat) (x1 : Int) (x2 : Int) (x3 : Int) (M : xM) (Q : Int → xM → Prop) : Prop := xcall xft xNf xmt xtr d 28 [.inr (some 51), .inl x1, .inl x2, .inl x3] (yS e M) (yI e Q)
def C_Ma_addRow (e : yE) (d : Nat) (k : Nat) (a1 : Nat) (n1 : Nat) (x2 : Int) (x3 : Int) (M : xM) (Q : Int → xM → Prop) : Prop := xcall xft xNf xmt xtr d 30 [.inr (some k), .inr (some a1), .inl x2, .inl x3] (yS e M) (yI e Q)
def C_Ma_patternOf (e : yE) (d : Nat) (k : Nat) (x1 : Int) (x2 : Int) (M : xM) (Q : Int → xM → Prop) : Prop := xcall xft xNf xmt xtr d 31 [.inr (some k), .inl x1, .inl x2] (yS e M) (yI e Q)
def C_Ma_isGuarded (e : yE) (d : Nat) (k : Nat) (x1 : Int) (M : xM) (Q : Int → xM → Prop) : Prop := xcall xft xNf xmt xtr d 32 [.inr (some k), .inl x1] (yS e M) (yI e Q)
def C_Ma_isOfOneType (e : yE) (d : Nat) (k : Nat) (M : xM) (Q : Int → xM → Prop) : Prop := xcall xft xNf xmt xtr d 33 [.inr (some k)] (yS e M) (yI e Q)
def C_Te_tell (e : yE) (d : Nat) (a1 : Nat) (M : xM) (Q : Int → xM → Prop) : Prop := xcall xft xNf xmt xtr d 35 [.inr (some 53), .inr (some a1)] (yS e M) (yI e Q)
def C_Te_markWay (e : yE) (d : Nat) (a1 : Nat) (M : xM) (Q : xM → Prop) : Prop := xcall xft xNf xmt xtr d 36 [.inr (some 53), .inr (some a1)] (yS e M) (yV e Q)
def C_Te_spell (e : yE) (d : Nat) (a1 : Nat) (M : xM) (Q : Int → xM → Prop) : Prop := xcall xft xNf xmt xtr d 37 [.inr (some 53), .inr (some a1)] (yS e M) (yI e Q)
def C_Tm_has (e : yE) (d : Nat) (k : Nat) (x1 : Int) (M : xM) (Q : Int → xM → Prop) : Prop := xcall xft xNf xmt xtr d 39 [.inr (some k), .inl x1] (yS e M) (yI e Q)
def C_Tm_isOf (e : yE) (d : Nat) (k : Nat) (x1 : Int) (x2 : Int) (M : xM) (Q : Int → xM → Prop) : Prop := xcall xft xNf xmt xtr d 40 [.inr (some k), .inl x1, .inl x2] (yS e M) (yI e Q)
def C_Tm_areOf (e : yE) (d : Nat) (k : Nat) (a1 : Nat) (n1 : Nat) (a2 : Nat) (n2 : Nat) (x3 : Int) (M : xM) (Q : Int → xM → Prop) : Prop := xcall xft xNf xmt xtr d 41 [.inr (some k), .inr (some a1), .inr (some a2), .inl x3] (yS e M) (yI e Q)
def C_Tm_areAlike (e : yE) (d : Nat) (k : Nat) (x1 : Int) (x2 : Int) (M : xM) (Q : Int → xM → Prop) : Prop := xcall xft xNf xmt xtr d 42 [.inr (some k), .inl x1, .inl x2] (yS e M) (yI e Q)
def C_Tm_haveNamesApart (e : yE) (d : Nat) (k : Nat) (a1 : Nat) (n1 : Nat) (x2 : Int) (M : xM) (Q : Int → xM → Prop) : Prop := xcall xft xNf xmt xtr d 43 [.inr (some k), .inr (some a1), .inl x2] (yS e M) (yI e Q)
def C_Tm_partOf (e : yE) (d : Nat) (k : Nat) (x1 : Int) (x2 : Int) (M : xM) (Q : Int → xM → Prop) : Prop := xcall xft xNf xmt xtr d 44 [.inr (some k), .inl x1, .inl x2] (yS e M) (yI e Q)
def C_Tm_add (e : yE) (d : Nat) (k : Nat) (x1 : Int) (x2 : Int) (x3 : Int) (a4 : Nat) (n4 : Nat) (x5 : Int) (M : xM) (Q : Int → xM → Prop) : Prop := xcall xft xNf xmt xtr d 45 [.inr (some k), .inl x1, .inl x2, .inl x3, .inr (some a4), .inl x5] (yS e M) (yI e Q)
def C_Tm_join (e : yE) (d : Nat) (k : Nat) (x1 : Int) (x2 : Int) (M : xM) (Q : xM → Prop) : Prop := xcall xft xNf xmt xtr d 46 [.inr (some k), .inl x1, .inl x2] (yS e M) (yV e Q)
def C_Tr_clear (e : yE) (d : Nat) (k : Nat) (M : xM) (Q : xM → Prop) : Prop := xcall xft xNf xmt xtr d 48 [.inr (some k)] (yS e M) (yV e Q)
def C_Tr_become (e : yE) (d : Nat) (k : Nat) (x1 : Int) (x2 : Int) (M : xM) (Q : xM → Prop) : Prop := xcall xft xNf xmt xtr d 49 [.inr (some k), .inl x1, .inl x2] (yS e M) (yV e Q)
def C_Tr_addPlace (e : yE) (d : Nat) (k : Nat) (x1 : Int) (M : xM) (Q : xM → Prop) : Prop := xcall xft xNf xmt xtr d 50 [.inr (some k), .inl x1] (yS e M) (yV e Q)
def C_Tr_addBranches (e : yE) (d : Nat) (k : Nat) (x1 : Int) (x2 : Int) (M : xM) (Q : Int → xM → Prop) : Prop := xcall xft xNf xmt xtr d 51 [.inr (some k), .inl x1, .inl x2] (yS e M) (yI e Q)
def C_Tr_placeOfName (e : yE) (d : Nat) (k : Nat) (x1 : Int) (x2 : Int) (M : xM) (Q : Int → xM → Prop) : Prop := xcall xft xNf xmt xtr d 52 [.inr (some k), .inl x1, .inl x2] (yS e M) (yI e Q)
def C_Ty_isType (e : yE) (d : Nat) (x1 : Int) (M : xM) (Q : Int → xM → Prop) : Prop := xcall xft xNf xmt xtr d 54 [.inr (some 2), .inl x1] (yS e M) (yI e Q)
def C_Ty_isMaker (e : yE) (d : Nat) (x1 : Int) (x2 : Int) (M : xM) (Q : Int → xM → Prop) : Prop := xcall xft xNf xmt xtr d 55 [.inr (some 2), .inl x1, .inl x2] (yS e M) (yI e Q)
def C_Ty_partsOf (e : yE) (d : Nat) (x1 : Int) (x2 : Int) (M : xM) (Q : Int → xM → Prop) : Prop := xcall xft xNf xmt xtr d 56 [.inr (some 2), .inl x1, .inl x2] (yS e M) (yI e Q)
def C_Ty_partTypeOf (e : yE) (d : Nat) (x1 : Int) (x2 : Int) (x3 : Int) (M : xM) (Q : Int → xM → Prop) : Prop := xcall xft xNf xmt xtr d 57 [.inr (some 2), .inl x1, .inl x2, .inl x3] (yS e M) (yI e Q)
def C_Ty_areTypes (e : yE) (d : Nat) (a1 : Nat) (n1 : Nat) (x2 : Int) (M : xM) (Q : Int → xM → Prop) : Prop := xcall xft xNf xmt xtr d 58 [.inr (some 2), .inr (some a1), .inl x2] (yS e M) (yI e Q)
def C_Ty_allHaveValues (e : yE) (d : Nat) (M : xM) (Q : Int → xM → Prop) : Prop := xcall xft xNf xmt xtr d 59 [.inr (some 2)] (yS e M) (yI e Q)
def C_Ty_addType (e : yE) (d : Nat) (M : xM) (Q : Int → xM → Prop) : Prop := xcall xft xNf xmt xtr d 60 [.inr (some 2)] (yS e M) (yI e Q)
def C_Ty_addMaker (e : yE) (d : Nat) (x1 : Int) (x2 : Int) (a3 : Nat) (n3 : Nat) (M : xM) (Q : Int → xM → Prop) : Prop := xcall xft xNf xmt xtr d 61 [.inr (some 2), .inl x1, .inl x2, .inr (some a3)] (yS e M) (yI e Q)
def C_Ty_settlePlain (e : yE) (d : Nat) (M : xM) (Q : xM → Prop) : Prop := xcall xft xNf xmt xtr d 62 [.inr (some 2)] (yS e M) (yV e Q)
def C_Ty_settlePlainOf (e : yE) (d : Nat) (x1 : Int) (M : xM) (Q : xM → Prop) : Prop := xcall xft xNf xmt xtr d 63 [.inr (some 2), .inl x1] (yS e M) (yV e Q)
def C_Ty_smallestBy (e : yE) (d : Nat) (x1 : Int) (x2 : Int) (M : xM) (Q : Int → xM → Prop) : Prop := xcall xft xNf xmt xtr d 64 [.inr (some 2), .inl x1, .inl x2] (yS e M) (yI e Q)
def C_Wa_clear (e : yE) (d : Nat) (k : Nat) (M : xM) (Q : xM → Prop) : Prop := xcall xft xNf xmt xtr d 66 [.inr (some k)] (yS e M) (yV e Q)
def C_Wa_follow (e : yE) (d : Nat) (k : Nat) (a1 : Nat) (a2 : Nat) (n2 : Nat) (M : xM) (Q : Int → xM → Prop) : Prop := xcall xft xNf xmt xtr d 67 [.inr (some k), .inr (some a1), .inr (some a2)] (yS e M) (yI e Q)
def C_Wa_branchOf (e : yE) (d : Nat) (k : Nat) (a1 : Nat) (x2 : Int) (M : xM) (Q : Int → xM → Prop) : Prop := xcall xft xNf xmt xtr d 68 [.inr (some k), .inr (some a1), .inl x2] (yS e M) (yI e Q)
def C_Wa_openParts (e : yE) (d : Nat) (k : Nat) (x1 : Int) (x2 : Int) (M : xM) (Q : xM → Prop) : Prop := xcall xft xNf xmt xtr d 69 [.inr (some k), .inl x1, .inl x2] (yS e M) (yV e Q)
def C_Wa_asks (e : yE) (d : Nat) (k : Nat) (a1 : Nat) (x2 : Int) (M : xM) (Q : Int → xM → Prop) : Prop := xcall xft xNf xmt xtr d 70 [.inr (some k), .inr (some a1), .inl x2] (yS e M) (yI e Q)
def C_Wa_bind (e : yE) (d : Nat) (k : Nat) (a1 : Nat) (x2 : Int) (M : xM) (Q : xM → Prop) : Prop := xcall xft xNf xmt xtr d 71 [.inr (some k), .inr (some a1), .inl x2] (yS e M) (yV e Q)
def C_Mf_type (e : yE) (d : Nat) (M : xM) (Q : Int → xM → Prop) : Prop := xcall xft xNf xmt xtr d 73 [.inr (some 1)] (yS e M) (yI e Q)
def C_Mf_maker (e : yE) (d : Nat) (x1 : Int) (x2 : Int) (x3 : Int) (x4 : Int) (x5 : Int) (M : xM) (Q : Int → xM → Prop) : Prop := xcall xft xNf xmt xtr d 74 [.inr (some 1), .inl x1, .inl x2, .inl x3, .inl x4, .inl x5] (yS e M) (yI e Q)
def C_Mf_number (e : yE) (d : Nat) (x1 : Int) (M : xM) (Q : Int → xM → Prop) : Prop := xcall xft xNf xmt xtr d 75 [.inr (some 1), .inl x1] (yS e M) (yI e Q)
def C_Mf_make (e : yE) (d : Nat) (x1 : Int) (x2 : Int) (x3 : Int) (x4 : Int) (x5 : Int) (M : xM) (Q : Int → xM → Prop) : Prop := xcall xft xNf xmt xtr d 76 [.inr (some 1), .inl x1, .inl x2, .inl x3, .inl x4, .inl x5] (yS e M) (yI e Q)
def C_Mf_any (e : yE) (d : Nat) (x1 : Int) (x2 : Int) (M : xM) (Q : Int → xM → Prop) : Prop := xcall xft xNf xmt xtr d 77 [.inr (some 1), .inl x1, .inl x2] (yS e M) (yI e Q)
def C_Mf_also (e : yE) (d : Nat) (x1 : Int) (x2 : Int) (M : xM) (Q : Int → xM → Prop) : Prop := xcall xft xNf xmt xtr d 78 [.inr (some 1), .inl x1, .inl x2] (yS e M) (yI e Q)
def C_Mf_exactly (e : yE) (d : Nat) (x1 : Int) (M : xM) (Q : Int → xM → Prop) : Prop := xcall xft xNf xmt xtr d 79 [.inr (some 1), .inl x1] (yS e M) (yI e Q)
def C_Mf_made (e : yE) (d : Nat) (x1 : Int) (x2 : Int) (x3 : Int) (x4 : Int) (x5 : Int) (M : xM) (Q : Int → xM → Prop) : Prop := xcall xft xNf xmt xtr d 80 [.inr (some 1), .inl x1, .inl x2, .inl x3, .inl x4, .inl x5] (yS e M) (yI e Q)
def C_Mf_either (e : yE) (d : Nat) (x1 : Int) (x2 : Int) (M : xM) (Q : Int → xM → Prop) : Prop := xcall xft xNf xmt xtr d 81 [.inr (some 1), .inl x1, .inl x2] (yS e M) (yI e Q)
def C_Mf_match (e : yE) (d : Nat) (x1 : Int) (x2 : Int) (x3 : Int) (x4 : Int) (M : xM) (Q : Int → yE → xM → Prop) : Prop := xcall xft xNf xmt xtr d 82 [.inr (some 1), .inl x1, .inl x2, .inl x3, .inl x4] (yS e M) (zI Q)
def C_Mf_row (e : yE) (d : Nat) (x1 : Int) (x2 : Int) (x3 : Int) (x4 : Int) (x5 : Int) (x6 : Int) (M : xM) (Q : Int → xM → Prop) : Prop := xcall xft xNf xmt xtr d 83 [.inr (some 1), .inl x1, .inl x2, .inl x3, .inl x4, .inl x5, .inl x6] (yS e M) (yI e Q)
def C_Mf_run (e : yE) (d : Nat) (x1 : Int) (x2 : Int) (x3 : Int) (x4 : Int) (M : xM) (Q : Int → yE → xM → Prop) : Prop := xcall xft xNf xmt xtr d 84 [.inr (some 1), .inl x1, .inl x2, .inl x3, .inl x4] (yS e M) (zI Q)
def C_Mf_took (e : yE) (d : Nat) (x1 : Int) (M : xM) (Q : Int → xM → Prop) : Prop := xcall xft xNf xmt xtr d 85 [.inr (some 1), .inl x1] (yS e M) (yI e Q)
def C_Mf_tree (e : yE) (d : Nat) (x1 : Int) (x2 : Int) (M : xM) (Q : Int → yE → xM → Prop) : Prop := xcall xft xNf xmt xtr d 86 [.inr (some 1), .inl x1, .inl x2] (yS e M) (zI Q)
def C_Mf_missing (e : yE) (d : Nat) (x1 : Int) (M : xM) (Q : Int → yE → xM → Prop) : Prop := xcall xft xNf xmt xtr d 87 [.inr (some 1), .inl x1] (yS e M) (zI Q)
def C_Mf_part (e : yE) (d : Nat) (x1 : Int) (M : xM) (Q : Int → xM → Prop) : Prop := xcall xft xNf xmt xtr d 88 [.inr (some 1), .inl x1] (yS e M) (yI e Q)
def C_Mf_plain (e : yE) (d : Nat) (x1 : Int) (M : xM) (Q : Int → xM → Prop) : Prop := xcall xft xNf xmt xtr d 89 [.inr (some 1), .inl x1] (yS e M) (yI e Q)
def C_Mf_count (e : yE) (d : Nat) (x1 : Int) (M : xM) (Q : Int → xM → Prop) : Prop := xcall xft xNf xmt xtr d 90 [.inr (some 1), .inl x1] (yS e M) (yI e Q)
def C_Mf_check (e : yE) (d : Nat) (M : xM) (Q : Int → yE → xM → Prop) : Prop := xcall xft xNf xmt xtr d 91 [.inr (some 1)] (yS e M) (zI Q)
def C_Mf_give (e : yE) (d : Nat) (x1 : Int) (x2 : Int) (x3 : Int) (M : xM) (Q : xM → Prop) : Prop := xcall xft xNf xmt xtr d 92 [.inr (some 1), .inl x1, .inl x2, .inl x3] (yS e M) (yV e Q)
def C_Mf_addMade (e : yE) (d : Nat) (a1 : Nat) (x2 : Int) (x3 : Int) (M : xM) (Q : Int → xM → Prop) : Prop := xcall xft xNf xmt xtr d 93 [.inr (some 1), .inr (some a1), .inl x2, .inl x3] (yS e M) (yI e Q)
def C_Mf_isMatch (e : yE) (d : Nat) (x1 : Int) (M : xM) (Q : Int → xM → Prop) : Prop := xcall xft xNf xmt xtr d 94 [.inr (some 1), .inl x1] (yS e M) (yI e Q)
def C_Mf_isName (e : yE) (d : Nat) (x0 : Int) (M : xM) (Q : Int → xM → Prop) : Prop := xcall xft xNf xmt xtr d 95 [.inl x0] (yS e M) (yI e Q)
def C_Mf_inBits (e : yE) (d : Nat) (x0 : Int) (x1 : Int) (M : xM) (Q : Int → xM → Prop) : Prop := xcall xft xNf xmt xtr d 96 [.inl x0, .inl x1] (yS e M) (yI e Q)
def C_Mf_isGuard (e : yE) (d : Nat) (x1 : Int) (x2 : Int) (x3 : Int) (M : xM) (Q : Int → xM → Prop) : Prop := xcall xft xNf xmt xtr d 97 [.inr (some 1), .inl x1, .inl x2, .inl x3] (yS e M) (yI e Q)
def C_Mf_allRows (e : yE) (d : Nat) (M : xM) (Q : Int → xM → Prop) : Prop := xcall xft xNf xmt xtr d 98 [.inr (some 1)] (yS e M) (yI e Q)
def C_Mf_agrees (e : yE) (d : Nat) (a1 : Nat) (M : xM) (Q : Int → xM → Prop) : Prop := xcall xft xNf xmt xtr d 99 [.inr (some 1), .inr (some a1)] (yS e M) (yI e Q)
def C_Ar_fill (e : yE) (d : Nat) (a0 : Nat) (n0 : Nat) (x1 : Int) (M : xM) (Q : xM → Prop) : Prop := xcall xft xNf xmt xtr d 160 [.inr (some a0), .inl x1] (yS e M) (yV e Q)
def C_Bu_stands_0 (e : yE) (d : Nat) (a1 : Nat) (M : xM) (Q : Int → yE → xM → Prop) : Prop := ∀ (o2 o3 o4 : Option xV), xGo xft xNf xmt xtr d 1 0 [some (.inr (some 29)), some (.inr (some a1)), o2, o3, o4] [] (yS e M) (zI Q)
def C_Bu_stands_30 (e : yE) (d : Nat) (a1 : Nat) (x2 : Int) (M : xM) (Q : Int → yE → xM → Prop) : Prop := ∀ (o3 o4 : Option xV), xGo xft xNf xmt xtr d 1 30 [some (.inr (some 29)), some (.inr (some a1)), some (.inl x2), o3, o4] [] (yS e M) (zI Q)
def C_Bu_stands_121 (e : yE) (d : Nat) (a1 : Nat) (M : xM) (Q : Int → yE → xM → Prop) : Prop := ∀ (o2 o3 o4 : Option xV), xGo xft xNf xmt xtr d 1 121 [some (.inr (some 29)), some (.inr (some a1)), o2, o3, o4] [] (yS e M) (zI Q)
theorem c_Bu_stands_0 {e : yE} {d : Nat} {a1 : Nat} {M : xM} {Q : Int → yE → xM → Prop} (hs : CSh e) (h1 : XSh3 a1 e) (h :
    (rg (M a1 7)) ∧ ((¬ (M a1 7) = 0 → 
      (C_Bu_begin e d a1 M (fun e2 M1 => 
      yLe e e2 ∧ (C_Bu_stands_30 e2 d a1 (0 : Int) M1 Q)))) ∧ 
    (¬ (¬ (M a1 7) = 0) → 
      ((rg (M (a1 + 5) 0)) ∧ ((¬ (M (a1 + 5) 0) = 0 → 
        (Q (0 : Int) e M)) ∧ 
      (¬ (¬ (M (a1 + 5) 0) = 0) → 
        (Q (1 : Int) e M))))))) : C_Bu_stands_0 e d a1 M Q := by
  intro o2 o3 o4
  refine xGo.in ?_
  refine And.intro (ob3 h1) ?_
  refine And.intro (h.1) (And.intro (fun c => ?_) (fun c => ?_))
  · replace h := h.2.1 c
    refine And.intro ⟨Nat.le_of_ble_eq_true rfl, Nat.le_of_ble_eq_true rfl, cob_29 hs⟩ ?_
    refine zV_use h (fun _ e2 M1 h => ?_)
    obtain ⟨hle, h⟩ := h
    replace hs := hs.le hle
    replace h1 := h1.le hle
    clear hle
    exact h _ _
  · replace h := h.2.2 c
    refine And.intro (ob3 h1) ?_
    refine And.intro (ob6 (t3 h1)) ?_
    refine And.intro (h.1) (And.intro (fun c => ?_) (fun c => ?_))
    · replace h := h.2.1 c
      exact And.intro (by decide) (zI_ret h)
    · replace h := h.2.2 c
      exact And.intro (by decide) (zI_ret h)
theorem c_Bu_stands_30 {e : yE} {d : Nat} {a1 : Nat} {x2 : Int} {M : xM} {Q : Int → yE → xM → Prop} (hs : CSh e) (h1 : XSh3 a1 e) (h :
    (rg x2) ∧ (((120 : Int) ≤ x2 → 
      (C_Bu_stands_121 e d a1 M Q)) ∧ 
    (¬ ((120 : Int) ≤ x2) → 
      ((rg (M 29 5)) ∧ (((M 29 5) ≤ 0 → 
        (C_Bu_stands_121 e d a1 M Q)) ∧ 
      (¬ ((M 29 5) ≤ 0) → 
        (∃ q1 : Nat, (M 29 17 = (q1 : Int) ∧ XSh6 q1 e) ∧ 
        ((rg (M q1 0)) ∧ ((¬ (M q1 0) = 0 → 
          (C_Bu_stands_121 e d a1 M Q)) ∧ 
        (¬ (¬ (M q1 0) = 0) → 
          (∀ M2 : xM, M2 = xup M 29 5 ((M 29 5) - (1 : Int)) → 
          ((0 ≤ (M2 29 5) ∧ (M2 29 5) < 120) ∧ 
          (C_Bu_loadRows e d (M2 38 (M2 29 5)) M2 (fun M3 => 
          C_Bu_splitFirst e d M3 (fun e5 M4 => 
          yLe e e5 ∧ (C_Bu_placeThatCounts e5 d M4 (fun y7 M6 => 
          C_Bu_splitAll e5 d y7 M6 (fun e9 M8 => 
          yLe e5 e9 ∧ ((rg y7) ∧ ((¬ y7 = (-1 : Int) → 
            (C_Bu_growTest e9 d (M2 38 (M2 29 5)) y7 M8 (fun e11 M10 => 
            yLe e9 e11 ∧ (C_Bu_stands_30 e11 d a1 (x2 + 1) M10 Q)))) ∧ 
          (¬ (¬ y7 = (-1 : Int)) → 
            (C_Bu_endNode e9 d (M2 38 (M2 29 5)) M8 (fun M12 => 
            C_Bu_stands_30 e9 d a1 (x2 + 1) M12 Q))))))))))))))))))))))) : C_Bu_stands_30 e d a1 x2 M Q := by
  intro o3 o4
  refine xGo.in ?_
  refine And.intro (⟨h.1, rg_lit (by decide)⟩) (And.intro (fun c => ?_) (fun c => ?_))
  · replace h := h.2.1 c
    exact h _ _ _
  · replace h := h.2.2 c
    refine And.intro (cob_29 hs) ?_
    refine And.intro (h.1) (And.intro (fun c => ?_) (fun c => ?_))
    · replace h := h.2.1 c
      exact h _ _ _
    · replace h := h.2.2 c
      refine And.intro (cob_29 hs) ?_
      obtain ⟨q1, ⟨eq1, hq1⟩, h⟩ := h
      refine xgo_top (xg3 (a := 0) (j := 17) rfl eq1) ?_
      refine And.intro (ob6 hq1) ?_
      refine And.intro (h.1) (And.intro (fun c => ?_) (fun c => ?_))
      · replace h := h.2.1 c
        exact h _ _ _
      · replace h := h.2.2 c
        refine And.intro (cob_29 hs) ?_
        refine And.intro (cob_29 hs) ?_
        obtain ⟨M2, hM2⟩ : ∃ z : xM, z = xup M 29 5 ((M 29 5) - (1 : Int)) := ⟨_, rfl⟩
        refine xgo_st (e := e) (M := M2) (by subst hM2; rfl) ?_
        replace h := h M2 hM2
        refine And.intro (cob_29 hs) ?_
        refine And.intro (cob_29 hs) ?_
        refine And.intro (xi_ld (caa_38 hs) (h.1)) ?_
        replace h := h.2
        refine And.intro ⟨Nat.le_of_ble_eq_true rfl, Nat.le_of_ble_eq_true rfl, cob_29 hs⟩ ?_
        refine yV_use h (fun _ M3 h => ?_)
        refine And.intro ⟨Nat.le_of_ble_eq_true rfl, Nat.le_of_ble_eq_true rfl, cob_29 hs⟩ ?_
        refine zV_use h (fun _ e5 M4 h => ?_)
        obtain ⟨hle, h⟩ := h
        replace hs := hs.le hle
        replace h1 := h1.le hle
        replace hq1 := hq1.le hle
        clear hle
        refine And.intro ⟨Nat.le_of_ble_eq_true rfl, Nat.le_of_ble_eq_true rfl, cob_29 hs⟩ ?_
        refine yI_use h (fun y7 M6 h => ?_)
        refine And.intro ⟨Nat.le_of_ble_eq_true rfl, Nat.le_of_ble_eq_true rfl, cob_29 hs⟩ ?_
        refine zV_use h (fun _ e9 M8 h => ?_)
        obtain ⟨hle, h⟩ := h
        replace hs := hs.le hle
        replace h1 := h1.le hle
        replace hq1 := hq1.le hle
        clear hle
        refine And.intro (⟨h.1, rg_lit (by decide)⟩) (And.intro (fun c => ?_) (fun c => ?_))
        · replace h := h.2.1 c
          refine And.intro ⟨Nat.le_of_ble_eq_true rfl, Nat.le_of_ble_eq_true rfl, cob_29 hs⟩ ?_
          refine zV_use h (fun _ e11 M10 h => ?_)
          obtain ⟨hle, h⟩ := h
          replace hs := hs.le hle
          replace h1 := h1.le hle
          replace hq1 := hq1.le hle
          clear hle
          exact h _ _
        · replace h := h.2.2 c
          refine And.intro ⟨Nat.le_of_ble_eq_true rfl, Nat.le_of_ble_eq_true rfl, cob_29 hs⟩ ?_
          refine yV_use h (fun _ M12 h => ?_)
          exact h _ _
theorem c_Bu_stands_121 {e : yE} {d : Nat} {a1 : Nat} {M : xM} {Q : Int → yE → xM → Prop} (hs : CSh e) (h1 : XSh3 a1 e) (h :
    ∀ M1 : xM, M1 = xup M a1 7 (0 : Int) → 
    (∃ q2 : Nat, (M1 29 17 = (q2 : Int) ∧ XSh6 q2 e) ∧ 
    ((rg (M1 q2 0)) ∧ ((¬ (M1 q2 0) = 0 → 
      (Q (0 : Int) e M1)) ∧ 
    (¬ (¬ (M1 q2 0) = 0) → 
      (Q (1 : Int) e M1)))))) : C_Bu_stands_121 e d a1 M Q := by
  intro o2 o3 o4
  refine xGo.in ?_
  refine And.intro (gob (ob3 h1) (by decide)) ?_
  obtain ⟨M1, hM1⟩ : ∃ z : xM, z = xup M a1 7 (0 : Int) := ⟨_, rfl⟩
  refine xgo_st (e := e) (M := M1) (by subst hM1; rfl) ?_
  replace h := h M1 hM1
  refine And.intro (cob_29 hs) ?_
  obtain ⟨q2, ⟨eq2, hq2⟩, h⟩ := h
  refine xgo_top (xg3 (a := 0) (j := 17) rfl eq2) ?_
  refine And.intro (ob6 hq2) ?_
  refine And.intro (h.1) (And.intro (fun c => ?_) (fun c => ?_))
  · replace h := h.2.1 c
    exact And.intro (by decide) (zI_ret h)
  · replace h := h.2.2 c
    exact And.intro (by decide) (zI_ret h)
theorem c_Bu_stands {e : yE} {d : Nat} {a1 : Nat} {M : xM} {Q : Int → yE → xM → Prop} (h : C_Bu_stands_0 e d a1 M Q) : C_Bu_stands e (d + 1) a1 M Q := h _ _ _
def C_Bu_begin_0 (e : yE) (d : Nat) (a1 : Nat) (M : xM) (Q : yE → xM → Prop) : Prop := ∀ (o2 o3 o4 : Option xV), xGo xft xNf xmt xtr d 2 0 [some (.inr (some 29)), some (.inr (some a1)), o2, o3, o4] [] (yS e M) (zV Q)
def C_Bu_begin_43 (e : yE) (d : Nat) (a1 : Nat) (x2 : Int) (M : xM) (Q : yE → xM → Prop) : Prop := ∀ (o1 o3 o4 : Option xV), xGo xft xNf xmt xtr d 2 43 [some (.inr (some 29)), o1, some (.inl x2), o3, o4] [] (yS e M) (zV Q)
def C_Bu_begin_95 (e : yE) (d : Nat) (a1 : Nat) (x2 x3 : Int) (M : xM) (Q : yE → xM → Prop) : Prop := ∀ (o1 o4 : Option xV), xGo xft xNf xmt xtr d 2 95 [some (.inr (some 29)), o1, some (.inl x2), some (.inl x3), o4] [] (yS e M) (zV Q)
def C_Bu_begin_120 (e : yE) (d : Nat) (a1 : Nat) (x2 x3 x4 : Int) (M : xM) (Q : yE → xM → Prop) : Prop := ∀ (o1 : Option xV), xGo xft xNf xmt xtr d 2 120 [some (.inr (some 29)), o1, some (.inl x2), some (.inl x3), some (.inl x4)] [] (yS e M) (zV Q)
theorem c_Bu_begin_0 {e : yE} {d : Nat} {a1 : Nat} {M : xM} {Q : yE → xM → Prop} (hs : CSh e) (h1 : XSh3 a1 e) (h :
    ∀ M1 : xM, M1 = xup M 29 16 (a1 : Nat) → 
    (∀ M2 : xM, M2 = xup M1 29 17 (a1 + 5 : Nat) → 
    (∃ q3 : Nat, (M2 29 17 = (q3 : Int) ∧ XSh6 q3 e) ∧ 
    (C_Tr_clear e d q3 M2 (fun M4 => 
    ∀ M5 : xM, M5 = xup M4 30 0 (0 : Int) → 
    (∀ M6 : xM, M6 = xup M5 34 0 (0 : Int) → 
    (∀ M7 : xM, M7 = xup M6 29 5 (0 : Int) → 
    (C_Bu_begin_43 e d a1 (0 : Int) M7 Q)))))))) : C_Bu_begin_0 e d a1 M Q := by
  intro o2 o3 o4
  refine xGo.in ?_
  refine And.intro (gob (cob_29 hs) (ob3_lt h1)) ?_
  obtain ⟨M1, hM1⟩ : ∃ z : xM, z = xup M 29 16 (a1 : Nat) := ⟨_, rfl⟩
  refine xgo_st (e := e) (M := M1) (by subst hM1; rfl) ?_
  replace h := h M1 hM1
  refine And.intro (ob3 h1) ?_
  refine And.intro (gob (cob_29 hs) (ob6_lt (t3 h1))) ?_
  obtain ⟨M2, hM2⟩ : ∃ z : xM, z = xup M1 29 17 (a1 + 5 : Nat) := ⟨_, rfl⟩
  refine xgo_st (e := e) (M := M2) (by subst hM2; rfl) ?_
  replace h := h M2 hM2
  refine And.intro (cob_29 hs) ?_
  obtain ⟨q3, ⟨eq3, hq3⟩, h⟩ := h
  refine xgo_top (xg3 (a := 0) (j := 17) rfl eq3) ?_
  refine And.intro ⟨Nat.le_of_ble_eq_true rfl, Nat.le_of_ble_eq_true rfl, ob6 hq3⟩ ?_
  refine yV_use h (fun _ M4 h => ?_)
  refine And.intro (cob_29 hs) ?_
  refine And.intro (ob1 (c1_30 hs)) ?_
  obtain ⟨M5, hM5⟩ : ∃ z : xM, z = xup M4 30 0 (0 : Int) := ⟨_, rfl⟩
  refine xgo_st (e := e) (M := M5) (by subst hM5; rfl) ?_
  replace h := h M5 hM5
  refine And.intro (cob_29 hs) ?_
  refine And.intro (ob1 (c1_34 hs)) ?_
  obtain ⟨M6, hM6⟩ : ∃ z : xM, z = xup M5 34 0 (0 : Int) := ⟨_, rfl⟩
  refine xgo_st (e := e) (M := M6) (by subst hM6; rfl) ?_
  replace h := h M6 hM6
  refine And.intro (cob_29 hs) ?_
  obtain ⟨M7, hM7⟩ : ∃ z : xM, z = xup M6 29 5 (0 : Int) := ⟨_, rfl⟩
  refine xgo_st (e := e) (M := M7) (by subst hM7; rfl) ?_
  replace h := h M7 hM7
  exact h _ _ _
theorem c_Bu_begin_43 {e : yE} {d : Nat} {a1 : Nat} {x2 : Int} {M : xM} {Q : yE → xM → Prop} (hs : CSh e) (h1 : XSh3 a1 e) (h :
    ∃ q1 : Nat, (M 29 16 = (q1 : Int) ∧ XSh3 q1 e) ∧ 
    ((rg x2 ∧ rg (M q1 0)) ∧ (((M q1 0) ≤ x2 → 
      (∃ q2 : Nat, (M 29 17 = (q2 : Int) ∧ XSh6 q2 e) ∧ 
      (C_Tr_addBranches e d q2 (-1 : Int) (1 : Int) M (fun y4 M3 => 
      (0 ≤ y4 ∧ y4 < 120) ∧ 
      (∀ M5 : xM, M5 = xup M3 40 y4 (0 : Int) → 
      (C_Bu_begin_95 e d a1 y4 (0 : Int) M5 Q)))))) ∧ 
    (¬ ((M q1 0) ≤ x2) → 
      (∃ q6 : Nat, (M 29 17 = (q6 : Int) ∧ XSh6 q6 e) ∧ 
      (∃ q7 : Nat, (M 29 16 = (q7 : Int) ∧ XSh3 q7 e) ∧ 
      ((0 ≤ x2 ∧ x2 < 3) ∧ 
      (C_Tr_addPlace e d q6 (M (q7 + 1) x2) M (fun M8 => 
      C_Bu_begin_43 e d a1 (x2 + 1) M8 Q))))))))) : C_Bu_begin_43 e d a1 x2 M Q := by
  intro o1 o3 o4
  refine xGo.in ?_
  refine And.intro (cob_29 hs) ?_
  obtain ⟨q1, ⟨eq1, hq1⟩, h⟩ := h
  refine xgo_top (xg3 (a := 0) (j := 16) rfl eq1) ?_
  refine And.intro (ob3 hq1) ?_
  refine And.intro (⟨h.1.1, h.1.2⟩) (And.intro (fun c => ?_) (fun c => ?_))
  · replace h := h.2.1 c
    refine And.intro (cob_29 hs) ?_
    obtain ⟨q2, ⟨eq2, hq2⟩, h⟩ := h
    refine xgo_top (xg3 (a := 0) (j := 17) rfl eq2) ?_
    refine And.intro ⟨Nat.le_of_ble_eq_true rfl, Nat.le_of_ble_eq_true rfl, ob6 hq2⟩ ?_
    refine yI_use h (fun y4 M3 h => ?_)
    refine And.intro (cob_29 hs) ?_
    refine And.intro (xi_st (caa_40 hs) (h.1)) ?_
    replace h := h.2
    obtain ⟨M5, hM5⟩ : ∃ z : xM, z = xup M3 40 y4 (0 : Int) := ⟨_, rfl⟩
    refine xgo_st (e := e) (M := M5) (by subst hM5; rfl) ?_
    replace h := h M5 hM5
    exact h _ _
  · replace h := h.2.2 c
    refine And.intro (cob_29 hs) ?_
    obtain ⟨q6, ⟨eq6, hq6⟩, h⟩ := h
    refine xgo_top (xg3 (a := 0) (j := 17) rfl eq6) ?_
    refine And.intro (cob_29 hs) ?_
    obtain ⟨q7, ⟨eq7, hq7⟩, h⟩ := h
    refine xgo_top (xg3 (a := 0) (j := 16) rfl eq7) ?_
    refine And.intro (ob3 hq7) ?_
    refine And.intro (xi_ld (a3_1 hq7) (h.1)) ?_
    replace h := h.2
    refine And.intro ⟨Nat.le_of_ble_eq_true rfl, Nat.le_of_ble_eq_true rfl, ob6 hq6⟩ ?_
    refine yV_use h (fun _ M8 h => ?_)
    exact h _ _ _
theorem c_Bu_begin_95 {e : yE} {d : Nat} {a1 : Nat} {x2 x3 : Int} {M : xM} {Q : yE → xM → Prop} (hs : CSh e) (h1 : XSh3 a1 e) (h :
    ∃ q1 : Nat, (M 29 16 = (q1 : Int) ∧ XSh3 q1 e) ∧ 
    ((rg x3 ∧ rg (M q1 2)) ∧ (((M q1 2) ≤ x3 → 
      (C_Bu_putOff e d x2 (1 : Int) M (fun M2 => 
      Q e M2))) ∧ 
    (¬ ((M q1 2) ≤ x3) → 
      (∃ q3 : Nat, (M 29 16 = (q3 : Int) ∧ XSh3 q3 e) ∧ 
      (∀ M4 : xM, M4 = xup M 29 13 (M q3 0) → 
      (C_Bu_begin_120 e d a1 x2 x3 (0 : Int) M4 Q))))))) : C_Bu_begin_95 e d a1 x2 x3 M Q := by
  intro o1 o4
  refine xGo.in ?_
  refine And.intro (cob_29 hs) ?_
  obtain ⟨q1, ⟨eq1, hq1⟩, h⟩ := h
  refine xgo_top (xg3 (a := 0) (j := 16) rfl eq1) ?_
  refine And.intro (ob3 hq1) ?_
  refine And.intro (⟨h.1.1, h.1.2⟩) (And.intro (fun c => ?_) (fun c => ?_))
  · replace h := h.2.1 c
    refine And.intro ⟨Nat.le_of_ble_eq_true rfl, Nat.le_of_ble_eq_true rfl, cob_29 hs⟩ ?_
    refine yV_use h (fun _ M2 h => ?_)
    exact zV_ret (r := .inl 0) h
  · replace h := h.2.2 c
    refine And.intro (cob_29 hs) ?_
    obtain ⟨q3, ⟨eq3, hq3⟩, h⟩ := h
    refine xgo_top (xg3 (a := 0) (j := 16) rfl eq3) ?_
    refine And.intro (ob3 hq3) ?_
    refine And.intro (cob_29 hs) ?_
    obtain ⟨M4, hM4⟩ : ∃ z : xM, z = xup M 29 13 (M q3 0) := ⟨_, rfl⟩
    refine xgo_st (e := e) (M := M4) (by subst hM4; rfl) ?_
    replace h := h M4 hM4
    exact h _
theorem c_Bu_begin_120 {e : yE} {d : Nat} {a1 : Nat} {x2 x3 x4 : Int} {M : xM} {Q : yE → xM → Prop} (hs : CSh e) (h1 : XSh3 a1 e) (h :
    ∃ q1 : Nat, (M 29 16 = (q1 : Int) ∧ XSh3 q1 e) ∧ 
    ((rg x4 ∧ rg (M q1 0)) ∧ (((M q1 0) ≤ x4 → 
      (C_Ce_add e d 30 x3 (-1 : Int) (-1 : Int) M (fun y4 e3 M2 => 
      yLe e e3 ∧ (C_Bu_putParts e3 d y4 (-1 : Int) (0 : Int) M2 (fun y7 e6 M5 => 
      yLe e3 e6 ∧ (C_Bu_keep e6 d x2 y7 M5 (fun M8 => 
      C_Bu_begin_95 e6 d a1 x2 (x3 + 1) M8 Q))))))) ∧ 
    (¬ ((M q1 0) ≤ x4) → 
      (∃ q9 : Nat, (M 29 16 = (q9 : Int) ∧ XSh3 q9 e) ∧ 
      (C_Ma_patternOf e d q9 x3 x4 M (fun y11 M10 => 
      (0 ≤ x4 ∧ x4 < 3) ∧ 
      (∀ M12 : xM, M12 = xup M10 43 x4 y11 → 
      (C_Bu_begin_120 e d a1 x2 x3 (x4 + 1) M12 Q))))))))) : C_Bu_begin_120 e d a1 x2 x3 x4 M Q := by
  intro o1
  refine xGo.in ?_
  refine And.intro (cob_29 hs) ?_
  obtain ⟨q1, ⟨eq1, hq1⟩, h⟩ := h
  refine xgo_top (xg3 (a := 0) (j := 16) rfl eq1) ?_
  refine And.intro (ob3 hq1) ?_
  refine And.intro (⟨h.1.1, h.1.2⟩) (And.intro (fun c => ?_) (fun c => ?_))
  · replace h := h.2.1 c
    refine And.intro (cob_29 hs) ?_
    refine And.intro ⟨Nat.le_of_ble_eq_true rfl, Nat.le_of_ble_eq_true rfl, ob1 (c1_30 hs)⟩ ?_
    refine zI_use h (fun y4 e3 M2 h => ?_)
    obtain ⟨hle, h⟩ := h
    replace hs := hs.le hle
    replace h1 := h1.le hle
    replace hq1 := hq1.le hle
    clear hle
    refine And.intro ⟨Nat.le_of_ble_eq_true rfl, Nat.le_of_ble_eq_true rfl, cob_29 hs⟩ ?_
    refine zI_use h (fun y7 e6 M5 h => ?_)
    obtain ⟨hle, h⟩ := h
    replace hs := hs.le hle
    replace h1 := h1.le hle
    replace hq1 := hq1.le hle
    clear hle
    refine And.intro ⟨Nat.le_of_ble_eq_true rfl, Nat.le_of_ble_eq_true rfl, cob_29 hs⟩ ?_
    refine yV_use h (fun _ M8 h => ?_)
    exact h _ _
  · replace h := h.2.2 c
    refine And.intro (cob_29 hs) ?_
    refine And.intro (cob_29 hs) ?_
    obtain ⟨q9, ⟨eq9, hq9⟩, h⟩ := h
    refine xgo_top (xg3 (a := 0) (j := 16) rfl eq9) ?_
    refine And.intro ⟨Nat.le_of_ble_eq_true rfl, Nat.le_of_ble_eq_true rfl, ob3 hq9⟩ ?_
    refine yI_use h (fun y11 M10 h => ?_)
    refine And.intro (xi_st (caa_43 hs) (h.1)) ?_
    replace h := h.2
    obtain ⟨M12, hM12⟩ : ∃ z : xM, z = xup M10 43 x4 y11 := ⟨_, rfl⟩
    refine xgo_st (e := e) (M := M12) (by subst hM12; rfl) ?_
    replace h := h M12 hM12
    exact h _
theorem c_Bu_begin {e : yE} {d : Nat} {a1 : Nat} {M : xM} {Q : yE → xM → Prop} (h : C_Bu_begin_0 e d a1 M Q) : C_Bu_begin e (d + 1) a1 M Q := h _ _ _
def C_Bu_keep_0 (e : yE) (d : Nat) (x1 x2 : Int) (M : xM) (Q : xM → Prop) : Prop := xGo xft xNf xmt xtr d 3 0 [some (.inr (some 29)), some (.inl x1), some (.inl x2)] [] (yS e M) (yV e Q)
theorem c_Bu_keep_0 {e : yE} {d : Nat} {x1 x2 : Int} {M : xM} {Q : xM → Prop} (hs : CSh e) (h :
    (0 ≤ x1 ∧ x1 < 120) ∧ 
    ((0 ≤ ((x1 * (24 : Int)) + (M 40 x1)) ∧ ((x1 * (24 : Int)) + (M 40 x1)) < 2880) ∧ 
    (∀ M1 : xM, M1 = xup M 39 ((x1 * (24 : Int)) + (M 40 x1)) x2 → 
    ((0 ≤ x1 ∧ x1 < 120) ∧ 
    ((0 ≤ x1 ∧ x1 < 120) ∧ 
    (∀ M2 : xM, M2 = xup M1 40 x1 ((M1 40 x1) + (1 : Int)) → 
    (Q M2))))))) : C_Bu_keep_0 e d x1 x2 M Q := by
  refine xGo.in ?_
  refine And.intro (cob_29 hs) ?_
  refine And.intro (cob_29 hs) ?_
  refine And.intro (xi_ld (caa_40 hs) (h.1)) ?_
  replace h := h.2
  refine And.intro (xi_st (caa_39 hs) (h.1)) ?_
  replace h := h.2
  obtain ⟨M1, hM1⟩ : ∃ z : xM, z = xup M 39 ((x1 * (24 : Int)) + (M 40 x1)) x2 := ⟨_, rfl⟩
  refine xgo_st (e := e) (M := M1) (by subst hM1; rfl) ?_
  replace h := h M1 hM1
  refine And.intro (cob_29 hs) ?_
  refine And.intro (xi_ld (caa_40 hs) (h.1)) ?_
  replace h := h.2
  refine And.intro (xi_st (caa_40 hs) (h.1)) ?_
  replace h := h.2
  obtain ⟨M2, hM2⟩ : ∃ z : xM, z = xup M1 40 x1 ((M1 40 x1) + (1 : Int)) := ⟨_, rfl⟩
  refine xgo_st (e := e) (M := M2) (by subst hM2; rfl) ?_
  replace h := h M2 hM2
  exact yV_ret (r := .inl 0) h
theorem c_Bu_keep {e : yE} {d : Nat} {x1 : Int} {x2 : Int} {M : xM} {Q : xM → Prop} (h : C_Bu_keep_0 e d x1 x2 M Q) : C_Bu_keep e (d + 1) x1 x2 M Q := h
def C_Bu_putOff_0 (e : yE) (d : Nat) (x1 x2 : Int) (M : xM) (Q : xM → Prop) : Prop := ∀ (o3 : Option xV), xGo xft xNf xmt xtr d 4 0 [some (.inr (some 29)), some (.inl x1), some (.inl x2), o3] [] (yS e M) (yV e Q)
def C_Bu_putOff_4 (e : yE) (d : Nat) (x1 x3 : Int) (M : xM) (Q : xM → Prop) : Prop := ∀ (o2 : Option xV), xGo xft xNf xmt xtr d 4 4 [some (.inr (some 29)), some (.inl x1), o2, some (.inl x3)] [] (yS e M) (yV e Q)
theorem c_Bu_putOff_0 {e : yE} {d : Nat} {x1 x2 : Int} {M : xM} {Q : xM → Prop} (hs : CSh e) (h :
    C_Bu_putOff_4 e d x1 (x2 - (1 : Int)) M Q) : C_Bu_putOff_0 e d x1 x2 M Q := by
  intro o3
  refine xGo.in ?_
  exact h _
theorem c_Bu_putOff_4 {e : yE} {d : Nat} {x1 x3 : Int} {M : xM} {Q : xM → Prop} (hs : CSh e) (h :
    (rg x3) ∧ ((x3 < 0 → 
      (Q M)) ∧ 
    (¬ (x3 < 0) → 
      ((0 ≤ (M 29 5) ∧ (M 29 5) < 120) ∧ 
      (∀ M1 : xM, M1 = xup M 38 (M 29 5) (x1 + x3) → 
      (∀ M2 : xM, M2 = xup M1 29 5 ((M1 29 5) + (1 : Int)) → 
      (C_Bu_putOff_4 e d x1 (x3 + (-1 : Int)) M2 Q))))))) : C_Bu_putOff_4 e d x1 x3 M Q := by
  intro o2
  refine xGo.in ?_
  refine And.intro (h.1) (And.intro (fun c => ?_) (fun c => ?_))
  · replace h := h.2.1 c
    exact yV_ret (r := .inl 0) h
  · replace h := h.2.2 c
    refine And.intro (cob_29 hs) ?_
    refine And.intro (cob_29 hs) ?_
    refine And.intro (xi_st (caa_38 hs) (h.1)) ?_
    replace h := h.2
    obtain ⟨M1, hM1⟩ : ∃ z : xM, z = xup M 38 (M 29 5) (x1 + x3) := ⟨_, rfl⟩
    refine xgo_st (e := e) (M := M1) (by subst hM1; rfl) ?_
    replace h := h M1 hM1
    refine And.intro (cob_29 hs) ?_
    refine And.intro (cob_29 hs) ?_
    obtain ⟨M2, hM2⟩ : ∃ z : xM, z = xup M1 29 5 ((M1 29 5) + (1 : Int)) := ⟨_, rfl⟩
    refine xgo_st (e := e) (M := M2) (by subst hM2; rfl) ?_
    replace h := h M2 hM2
    exact h _
theorem c_Bu_putOff {e : yE} {d : Nat} {x1 : Int} {x2 : Int} {M : xM} {Q : xM → Prop} (h : C_Bu_putOff_0 e d x1 x2 M Q) : C_Bu_putOff e (d + 1) x1 x2 M Q := h _
def C_Bu_loadRows_0 (e : yE) (d : Nat) (x1 : Int) (M : xM) (Q : xM → Prop) : Prop := xGo xft xNf xmt xtr d 5 0 [some (.inr (some 29)), some (.inl x1)] [] (yS e M) (yV e Q)
theorem c_Bu_loadRows_0 {e : yE} {d : Nat} {x1 : Int} {M : xM} {Q : xM → Prop} (hs : CSh e) (h :
    (0 ≤ x1 ∧ x1 < 120) ∧ 
    (∀ M1 : xM, M1 = xup M 29 9 (M 40 x1) → 
    ((¬ 39 = 41 ∧ (0 ≤ (x1 * (24 : Int)) ∧ 0 ≤ (0 : Int) ∧ 0 ≤ (M1 29 9) ∧ (x1 * (24 : Int)) + (M1 29 9) ≤ 2880 ∧ (0 : Int) + (M1 29 9) ≤ 24) ∧ 2880 ≤ 50000000 ∧ 24 ≤ 50000000) ∧ 
    (∀ M2 : xM, M2 = xcpy M1 39 (x1 * (24 : Int)) 41 (0 : Int) (M1 29 9) → 
    (Q M2))))) : C_Bu_loadRows_0 e d x1 M Q := by
  refine xGo.in ?_
  refine And.intro (cob_29 hs) ?_
  refine And.intro (xi_ld (caa_40 hs) (h.1)) ?_
  replace h := h.2
  refine And.intro (cob_29 hs) ?_
  obtain ⟨M1, hM1⟩ : ∃ z : xM, z = xup M 29 9 (M 40 x1) := ⟨_, rfl⟩
  refine xgo_st (e := e) (M := M1) (by subst hM1; rfl) ?_
  replace h := h M1 hM1
  refine And.intro (cob_29 hs) ?_
  refine And.intro (cob_29 hs) ?_
  refine And.intro (cob_29 hs) ?_
  refine And.intro (xi_cpy (caa_39 hs) (caa_41 hs) h.1.1 h.1.2.1 h.1.2.2 (Nat.le_of_ble_eq_true rfl)) ?_
  replace h := h.2
  obtain ⟨M2, hM2⟩ : ∃ z : xM, z = xcpy M1 39 (x1 * (24 : Int)) 41 (0 : Int) (M1 29 9) := ⟨_, rfl⟩
  refine xgo_st (e := e) (M := M2) (by subst hM2; rfl) ?_
  replace h := h M2 hM2
  exact yV_ret (r := .inl 0) h
theorem c_Bu_loadRows {e : yE} {d : Nat} {x1 : Int} {M : xM} {Q : xM → Prop} (h : C_Bu_loadRows_0 e d x1 M Q) : C_Bu_loadRows e (d + 1) x1 M Q := h
def C_Bu_placeThatCounts_0 (e : yE) (d : Nat) (M : xM) (Q : Int → xM → Prop) : Prop := xGo xft xNf xmt xtr d 6 0 [some (.inr (some 29))] [] (yS e M) (yI e Q)
theorem c_Bu_placeThatCounts_0 {e : yE} {d : Nat} {M : xM} {Q : Int → xM → Prop} (hs : CSh e) (h :
    (rg (M 29 9)) ∧ (((M 29 9) = 0 → 
      (Q (-1 : Int) M)) ∧ 
    (¬ ((M 29 9) = 0) → 
      (∃ q1 nq1 : Nat, (M 30 2 = (q1 : Int) ∧ yA e q1 1 nq1) ∧ 
      ((0 ≤ (M 41 (0 : Int)) ∧ (M 41 (0 : Int)) < (nq1 : Int)) ∧ 
      ((rg (M q1 (M 41 (0 : Int)))) ∧ ((¬ (M q1 (M 41 (0 : Int))) = (-1 : Int) → 
        (∃ q2 nq2 : Nat, (M 34 1 = (q2 : Int) ∧ yA e q2 1 nq2) ∧ 
        (∃ q3 nq3 : Nat, (M 30 2 = (q3 : Int) ∧ yA e q3 1 nq3) ∧ 
        ((0 ≤ (M 41 (0 : Int)) ∧ (M 41 (0 : Int)) < (nq3 : Int)) ∧ 
        ((0 ≤ (M q3 (M 41 (0 : Int))) ∧ (M q3 (M 41 (0 : Int))) < (nq2 : Int)) ∧ 
        (Q (M q2 (M q3 (M 41 (0 : Int)))) M)))))) ∧ 
      (¬ (¬ (M q1 (M 41 (0 : Int))) = (-1 : Int)) → 
        (Q (-1 : Int) M))))))))) : C_Bu_placeThatCounts_0 e d  M Q := by
  refine xGo.in ?_
  refine And.intro (cob_29 hs) ?_
  refine And.intro (h.1) (And.intro (fun c => ?_) (fun c => ?_))
  · replace h := h.2.1 c
    exact yI_ret h
  · replace h := h.2.2 c
    refine And.intro (cob_29 hs) ?_
    refine And.intro (ob1 (c1_30 hs)) ?_
    obtain ⟨q1, nq1, ⟨eq1, hq1⟩, h⟩ := h
    refine xgo_top (xg3 (a := 1) (j := 2) rfl eq1) ?_
    refine And.intro (cob_29 hs) ?_
    refine And.intro (xi_ld (caa_41 hs) (⟨by decide, by decide⟩)) ?_
    refine And.intro (xi_ld (hq1) (h.1)) ?_
    replace h := h.2
    refine And.intro (⟨h.1, rg_lit (by decide)⟩) (And.intro (fun c => ?_) (fun c => ?_))
    · replace h := h.2.1 c
      refine And.intro (cob_29 hs) ?_
      refine And.intro (ob1 (c1_34 hs)) ?_
      obtain ⟨q2, nq2, ⟨eq2, hq2⟩, h⟩ := h
      refine xgo_top (xg3 (a := 1) (j := 1) rfl eq2) ?_
      refine And.intro (cob_29 hs) ?_
      refine And.intro (ob1 (c1_30 hs)) ?_
      obtain ⟨q3, nq3, ⟨eq3, hq3⟩, h⟩ := h
      refine xgo_top (xg3 (a := 1) (j := 2) rfl eq3) ?_
      refine And.intro (cob_29 hs) ?_
      refine And.intro (xi_ld (caa_41 hs) (⟨by decide, by decide⟩)) ?_
      refine And.intro (xi_ld (hq3) (h.1)) ?_
      replace h := h.2
      refine And.intro (xi_ld (hq2) (h.1)) ?_
      replace h := h.2
      exact yI_ret h
    · replace h := h.2.2 c
      exact yI_ret h
theorem c_Bu_placeThatCounts {e : yE} {d : Nat} {M : xM} {Q : Int → xM → Prop} (h : C_Bu_placeThatCounts_0 e d  M Q) : C_Bu_placeThatCounts e (d + 1)  M Q := h
def C_Bu_splitFirst_0 (e : yE) (d : Nat) (M : xM) (Q : yE → xM → Prop) : Prop := ∀ (o1 o2 : Option xV), xGo xft xNf xmt xtr d 7 0 [some (.inr (some 29)), o1, o2] [] (yS e M) (zV Q)
def C_Bu_splitFirst_7 (e : yE) (d : Nat) (x1 x2 : Int) (M : xM) (Q : yE → xM → Prop) : Prop := xGo xft xNf xmt xtr d 7 7 [some (.inr (some 29)), some (.inl x1), some (.inl x2)] [] (yS e M) (zV Q)
theorem c_Bu_splitFirst_0 {e : yE} {d : Nat} {M : xM} {Q : yE → xM → Prop} (hs : CSh e) (h :
    C_Bu_placeThatCounts e d M (fun y2 M1 => 
    C_Bu_splitFirst_7 e d y2 (0 : Int) M1 Q)) : C_Bu_splitFirst_0 e d  M Q := by
  intro o1 o2
  refine xGo.in ?_
  refine And.intro ⟨Nat.le_of_ble_eq_true rfl, Nat.le_of_ble_eq_true rfl, cob_29 hs⟩ ?_
  refine yI_use h (fun y2 M1 h => ?_)
  exact h
theorem c_Bu_splitFirst_7 {e : yE} {d : Nat} {x1 x2 : Int} {M : xM} {Q : yE → xM → Prop} (hs : CSh e) (h :
    (rg x2) ∧ (((24 : Int) ≤ x2 → 
      (Q e M)) ∧ 
    (¬ ((24 : Int) ≤ x2) → 
      (C_Bu_isEither e d (0 : Int) x1 M (fun y2 M1 => 
      (rg y2) ∧ ((y2 = 0 → 
        (Q e M1)) ∧ 
      (¬ (y2 = 0) → 
        (∃ q3 : Nat, (M1 29 17 = (q3 : Int) ∧ XSh6 q3 e) ∧ 
        ((rg (M1 q3 0)) ∧ ((¬ (M1 q3 0) = 0 → 
          (Q e M1)) ∧ 
        (¬ (¬ (M1 q3 0) = 0) → 
          (C_Bu_split e d (0 : Int) x1 M1 (fun e5 M4 => 
          yLe e e5 ∧ (C_Bu_placeThatCounts e5 d M4 (fun y7 M6 => 
          C_Bu_splitFirst_7 e5 d y7 (x2 + 1) M6 Q))))))))))))))) : C_Bu_splitFirst_7 e d x1 x2 M Q := by
  refine xGo.in ?_
  refine And.intro (⟨h.1, rg_lit (by decide)⟩) (And.intro (fun c => ?_) (fun c => ?_))
  · replace h := h.2.1 c
    exact zV_ret (r := .inl 0) h
  · replace h := h.2.2 c
    refine And.intro ⟨Nat.le_of_ble_eq_true rfl, Nat.le_of_ble_eq_true rfl, cob_29 hs⟩ ?_
    refine yI_use h (fun y2 M1 h => ?_)
    refine And.intro (h.1) (And.intro (fun c => ?_) (fun c => ?_))
    · replace h := h.2.1 c
      exact zV_ret (r := .inl 0) h
    · replace h := h.2.2 c
      refine And.intro (cob_29 hs) ?_
      obtain ⟨q3, ⟨eq3, hq3⟩, h⟩ := h
      refine xgo_top (xg3 (a := 0) (j := 17) rfl eq3) ?_
      refine And.intro (ob6 hq3) ?_
      refine And.intro (h.1) (And.intro (fun c => ?_) (fun c => ?_))
      · replace h := h.2.1 c
        exact zV_ret (r := .inl 0) h
      · replace h := h.2.2 c
        refine And.intro ⟨Nat.le_of_ble_eq_true rfl, Nat.le_of_ble_eq_true rfl, cob_29 hs⟩ ?_
        refine zV_use h (fun _ e5 M4 h => ?_)
        obtain ⟨hle, h⟩ := h
        replace hs := hs.le hle
        replace hq3 := hq3.le hle
        clear hle
        refine And.intro ⟨Nat.le_of_ble_eq_true rfl, Nat.le_of_ble_eq_true rfl, cob_29 hs⟩ ?_
        refine yI_use h (fun y7 M6 h => ?_)
        exact h
theorem c_Bu_splitFirst {e : yE} {d : Nat} {M : xM} {Q : yE → xM → Prop} (h : C_Bu_splitFirst_0 e d  M Q) : C_Bu_splitFirst e (d + 1)  M Q := h _ _
def C_Bu_splitAll_0 (e : yE) (d : Nat) (x1 : Int) (M : xM) (Q : yE → xM → Prop) : Prop := ∀ (o2 o3 : Option xV), xGo xft xNf xmt xtr d 8 0 [some (.inr (some 29)), some (.inl x1), o2, o3] [] (yS e M) (zV Q)
def C_Bu_splitAll_2 (e : yE) (d : Nat) (x1 x2 : Int) (M : xM) (Q : yE → xM → Prop) : Prop := ∀ (o3 : Option xV), xGo xft xNf xmt xtr d 8 2 [some (.inr (some 29)), some (.inl x1), some (.inl x2), o3] [] (yS e M) (zV Q)
def C_Bu_splitAll_18 (e : yE) (d : Nat) (x1 x2 x3 : Int) (M : xM) (Q : yE → xM → Prop) : Prop := xGo xft xNf xmt xtr d 8 18 [some (.inr (some 29)), some (.inl x1), some (.inl x2), some (.inl x3)] [] (yS e M) (zV Q)
theorem c_Bu_splitAll_0 {e : yE} {d : Nat} {x1 : Int} {M : xM} {Q : yE → xM → Prop} (hs : CSh e) (h :
    C_Bu_splitAll_2 e d x1 (0 : Int) M Q) : C_Bu_splitAll_0 e d x1 M Q := by
  intro o2 o3
  refine xGo.in ?_
  exact h _
theorem c_Bu_splitAll_2 {e : yE} {d : Nat} {x1 x2 : Int} {M : xM} {Q : yE → xM → Prop} (hs : CSh e) (h :
    (rg x2) ∧ (((24 : Int) ≤ x2 → 
      (Q e M)) ∧ 
    (¬ ((24 : Int) ≤ x2) → 
      ((rg x2 ∧ rg (M 29 9)) ∧ (((M 29 9) ≤ x2 → 
        (Q e M)) ∧ 
      (¬ ((M 29 9) ≤ x2) → 
        (C_Bu_splitAll_18 e d x1 x2 (0 : Int) M Q))))))) : C_Bu_splitAll_2 e d x1 x2 M Q := by
  intro o3
  refine xGo.in ?_
  refine And.intro (⟨h.1, rg_lit (by decide)⟩) (And.intro (fun c => ?_) (fun c => ?_))
  · replace h := h.2.1 c
    exact zV_ret (r := .inl 0) h
  · replace h := h.2.2 c
    refine And.intro (cob_29 hs) ?_
    refine And.intro (⟨h.1.1, h.1.2⟩) (And.intro (fun c => ?_) (fun c => ?_))
    · replace h := h.2.1 c
      exact zV_ret (r := .inl 0) h
    · replace h := h.2.2 c
      exact h
theorem c_Bu_splitAll_18 {e : yE} {d : Nat} {x1 x2 x3 : Int} {M : xM} {Q : yE → xM → Prop} (hs : CSh e) (h :
    (rg x3) ∧ (((24 : Int) ≤ x3 → 
      (C_Bu_splitAll_2 e d x1 (x2 + 1) M Q)) ∧ 
    (¬ ((24 : Int) ≤ x3) → 
      (C_Bu_isEither e d x2 x1 M (fun y2 M1 => 
      (rg y2) ∧ ((y2 = 0 → 
        (C_Bu_splitAll_2 e d x1 (x2 + 1) M1 Q)) ∧ 
      (¬ (y2 = 0) → 
        (∃ q3 : Nat, (M1 29 17 = (q3 : Int) ∧ XSh6 q3 e) ∧ 
        ((rg (M1 q3 0)) ∧ ((¬ (M1 q3 0) = 0 → 
          (C_Bu_splitAll_2 e d x1 (x2 + 1) M1 Q)) ∧ 
        (¬ (¬ (M1 q3 0) = 0) → 
          (C_Bu_split e d x2 x1 M1 (fun e5 M4 => 
          yLe e e5 ∧ (C_Bu_splitAll_18 e5 d x1 x2 (x3 + 1) M4 Q)))))))))))))) : C_Bu_splitAll_18 e d x1 x2 x3 M Q := by
  refine xGo.in ?_
  refine And.intro (⟨h.1, rg_lit (by decide)⟩) (And.intro (fun c => ?_) (fun c => ?_))
  · replace h := h.2.1 c
    exact h _
  · replace h := h.2.2 c
    refine And.intro ⟨Nat.le_of_ble_eq_true rfl, Nat.le_of_ble_eq_true rfl, cob_29 hs⟩ ?_
    refine yI_use h (fun y2 M1 h => ?_)
    refine And.intro (h.1) (And.intro (fun c => ?_) (fun c => ?_))
    · replace h := h.2.1 c
      exact h _
    · replace h := h.2.2 c
      refine And.intro (cob_29 hs) ?_
      obtain ⟨q3, ⟨eq3, hq3⟩, h⟩ := h
      refine xgo_top (xg3 (a := 0) (j := 17) rfl eq3) ?_
      refine And.intro (ob6 hq3) ?_
      refine And.intro (h.1) (And.intro (fun c => ?_) (fun c => ?_))
      · replace h := h.2.1 c
        exact h _
      · replace h := h.2.2 c
        refine And.intro ⟨Nat.le_of_ble_eq_true rfl, Nat.le_of_ble_eq_true rfl, cob_29 hs⟩ ?_
        refine zV_use h (fun _ e5 M4 h => ?_)
        obtain ⟨hle, h⟩ := h
        replace hs := hs.le hle
        replace hq3 := hq3.le hle
        clear hle
        exact h
theorem c_Bu_splitAll {e : yE} {d : Nat} {x1 : Int} {M : xM} {Q : yE → xM → Prop} (h : C_Bu_splitAll_0 e d x1 M Q) : C_Bu_splitAll e (d + 1) x1 M Q := h _ _
def C_Bu_isEither_0 (e : yE) (d : Nat) (x1 x2 : Int) (M : xM) (Q : Int → xM → Prop) : Prop := ∀ (o3 : Option xV), xGo xft xNf xmt xtr d 9 0 [some (.inr (some 29)), some (.inl x1), some (.inl x2), o3] [] (yS e M) (yI e Q)
def C_Bu_isEither_23 (e : yE) (d : Nat) (s0 : Int) (M : xM) (Q : Int → xM → Prop) : Prop := ∀ (o1 o2 o3 : Option xV), xGo xft xNf xmt xtr d 9 23 [some (.inr (some 29)), o1, o2, o3] [.inl s0] (yS e M) (yI e Q)
theorem c_Bu_isEither_0 {e : yE} {d : Nat} {x1 x2 : Int} {M : xM} {Q : Int → xM → Prop} (hs : CSh e) (h :
    (rg x1 ∧ rg (M 29 9)) ∧ (((M 29 9) ≤ x1 → 
      (C_Bu_isEither_23 e d (-1 : Int) M Q)) ∧ 
    (¬ ((M 29 9) ≤ x1) → 
      ((0 ≤ x1 ∧ x1 < 24) ∧ 
      (C_Bu_patternAt e d (M 41 x1) x2 M (fun y2 M1 => 
      C_Bu_isEither_23 e d y2 M1 Q)))))) : C_Bu_isEither_0 e d x1 x2 M Q := by
  intro o3
  refine xGo.in ?_
  refine And.intro (cob_29 hs) ?_
  refine And.intro (⟨h.1.1, h.1.2⟩) (And.intro (fun c => ?_) (fun c => ?_))
  · replace h := h.2.1 c
    exact h _ _ _
  · replace h := h.2.2 c
    refine And.intro (cob_29 hs) ?_
    refine And.intro (xi_ld (caa_41 hs) (h.1)) ?_
    replace h := h.2
    refine And.intro ⟨Nat.le_of_ble_eq_true rfl, Nat.le_of_ble_eq_true rfl, cob_29 hs⟩ ?_
    refine yI_use h (fun y2 M1 h => ?_)
    exact h _ _ _
theorem c_Bu_isEither_23 {e : yE} {d : Nat} {s0 : Int} {M : xM} {Q : Int → xM → Prop} (hs : CSh e) (h :
    (rg s0) ∧ ((s0 = (-1 : Int) → 
      (Q (0 : Int) M)) ∧ 
    (¬ (s0 = (-1 : Int)) → 
      ((0 ≤ s0 ∧ s0 < 300) ∧ 
      ((rg (M 19 s0)) ∧ ((¬ (M 19 s0) = (5 : Int) → 
        (Q (0 : Int) M)) ∧ 
      (¬ (¬ (M 19 s0) = (5 : Int)) → 
        (Q (1 : Int) M)))))))) : C_Bu_isEither_23 e d s0 M Q := by
  intro o1 o2 o3
  refine xGo.in ?_
  refine And.intro (⟨h.1, rg_lit (by decide)⟩) (And.intro (fun c => ?_) (fun c => ?_))
  · replace h := h.2.1 c
    exact And.intro (by decide) (yI_ret h)
  · replace h := h.2.2 c
    refine And.intro (cob_29 hs) ?_
    refine And.intro (ob5 (c5_18 hs)) ?_
    refine And.intro (xi_ld (caa_19 hs) (h.1)) ?_
    replace h := h.2
    refine And.intro (⟨h.1, rg_lit (by decide)⟩) (And.intro (fun c => ?_) (fun c => ?_))
    · replace h := h.2.1 c
      exact And.intro (by decide) (yI_ret h)
    · replace h := h.2.2 c
      exact And.intro (by decide) (yI_ret h)
theorem c_Bu_isEither {e : yE} {d : Nat} {x1 : Int} {x2 : Int} {M : xM} {Q : Int → xM → Prop} (h : C_Bu_isEither_0 e d x1 x2 M Q) : C_Bu_isEither e (d + 1) x1 x2 M Q := h _
def C_Bu_split_0 (e : yE) (d : Nat) (x1 x2 : Int) (M : xM) (Q : yE → xM → Prop) : Prop := ∀ (o3 o4 o5 : Option xV), xGo xft xNf xmt xtr d 10 0 [some (.inr (some 29)), some (.inl x1), some (.inl x2), o3, o4, o5] [] (yS e M) (zV Q)
def C_Bu_split_39 (e : yE) (d : Nat) (x1 x2 x3 x4 x5 : Int) (M : xM) (Q : yE → xM → Prop) : Prop := xGo xft xNf xmt xtr d 10 39 [some (.inr (some 29)), some (.inl x1), some (.inl x2), some (.inl x3), some (.inl x4), some (.inl x5)] [] (yS e M) (zV Q)
theorem c_Bu_split_0 {e : yE} {d : Nat} {x1 x2 : Int} {M : xM} {Q : yE → xM → Prop} (hs : CSh e) (h :
    (rg (M 29 9)) ∧ ((¬ (M 29 9) = (24 : Int) → 
      ((0 ≤ x1 ∧ x1 < 24) ∧ 
      (C_Bu_patternAt e d (M 41 x1) x2 M (fun y2 M1 => 
      C_Bu_split_39 e d x1 x2 (M 41 x1) y2 (M1 29 9) M1 Q)))) ∧ 
    (¬ (¬ (M 29 9) = (24 : Int)) → 
      (∃ q3 : Nat, (M 29 17 = (q3 : Int) ∧ XSh6 q3 e) ∧ 
      (∀ M4 : xM, M4 = xup M q3 0 (1 : Int) → 
      (Q e M4)))))) : C_Bu_split_0 e d x1 x2 M Q := by
  intro o3 o4 o5
  refine xGo.in ?_
  refine And.intro (cob_29 hs) ?_
  refine And.intro (⟨h.1, rg_lit (by decide)⟩) (And.intro (fun c => ?_) (fun c => ?_))
  · replace h := h.2.1 c
    refine And.intro (cob_29 hs) ?_
    refine And.intro (xi_ld (caa_41 hs) (h.1)) ?_
    replace h := h.2
    refine And.intro ⟨Nat.le_of_ble_eq_true rfl, Nat.le_of_ble_eq_true rfl, cob_29 hs⟩ ?_
    refine yI_use h (fun y2 M1 h => ?_)
    refine And.intro (cob_29 hs) ?_
    exact h
  · replace h := h.2.2 c
    refine And.intro (cob_29 hs) ?_
    obtain ⟨q3, ⟨eq3, hq3⟩, h⟩ := h
    refine xgo_top (xg3 (a := 0) (j := 17) rfl eq3) ?_
    refine And.intro (gob (ob6 hq3) (by decide)) ?_
    obtain ⟨M4, hM4⟩ : ∃ z : xM, z = xup M q3 0 (1 : Int) := ⟨_, rfl⟩
    refine xgo_st (e := e) (M := M4) (by subst hM4; rfl) ?_
    replace h := h M4 hM4
    exact zV_ret (r := .inl 0) h
theorem c_Bu_split_39 {e : yE} {d : Nat} {x1 x2 x3 x4 x5 : Int} {M : xM} {Q : yE → xM → Prop} (hs : CSh e) (h :
    (rg x5 ∧ rg x1) ∧ ((x5 ≤ x1 → 
      (∀ M1 : xM, M1 = xup M 29 9 ((M 29 9) + (1 : Int)) → 
      (∀ M2 : xM, M2 = xup M1 29 13 (1 : Int) → 
      (C_Tm_partOf e d 18 x4 (0 : Int) M2 (fun y4 M3 => 
      ∀ M5 : xM, M5 = xup M3 43 (0 : Int) y4 → 
      (C_Bu_putParts e d x3 x2 x2 M5 (fun y8 e7 M6 => 
      yLe e e7 ∧ ((0 ≤ x1 ∧ x1 < 24) ∧ 
      (∀ M9 : xM, M9 = xup M6 41 x1 y8 → 
      (C_Tm_partOf e7 d 18 x4 (1 : Int) M9 (fun y11 M10 => 
      ∀ M12 : xM, M12 = xup M10 43 (0 : Int) y11 → 
      (C_Bu_putParts e7 d x3 x2 x2 M12 (fun y15 e14 M13 => 
      yLe e7 e14 ∧ ((0 ≤ (x1 + (1 : Int)) ∧ (x1 + (1 : Int)) < 24) ∧ 
      (∀ M16 : xM, M16 = xup M13 41 (x1 + (1 : Int)) y15 → 
      (Q e14 M16)))))))))))))))) ∧ 
    (¬ (x5 ≤ x1) → 
      ((0 ≤ (x5 - (1 : Int)) ∧ (x5 - (1 : Int)) < 24) ∧ 
      ((0 ≤ x5 ∧ x5 < 24) ∧ 
      (∀ M17 : xM, M17 = xup M 41 x5 (M 41 (x5 - (1 : Int))) → 
      (C_Bu_split_39 e d x1 x2 x3 x4 (x5 + (-1 : Int)) M17 Q))))))) : C_Bu_split_39 e d x1 x2 x3 x4 x5 M Q := by
  refine xGo.in ?_
  refine And.intro (⟨h.1.1, h.1.2⟩) (And.intro (fun c => ?_) (fun c => ?_))
  · replace h := h.2.1 c
    refine And.intro (cob_29 hs) ?_
    refine And.intro (cob_29 hs) ?_
    obtain ⟨M1, hM1⟩ : ∃ z : xM, z = xup M 29 9 ((M 29 9) + (1 : Int)) := ⟨_, rfl⟩
    refine xgo_st (e := e) (M := M1) (by subst hM1; rfl) ?_
    replace h := h M1 hM1
    refine And.intro (cob_29 hs) ?_
    obtain ⟨M2, hM2⟩ : ∃ z : xM, z = xup M1 29 13 (1 : Int) := ⟨_, rfl⟩
    refine xgo_st (e := e) (M := M2) (by subst hM2; rfl) ?_
    replace h := h M2 hM2
    refine And.intro (cob_29 hs) ?_
    refine And.intro (cob_29 hs) ?_
    refine And.intro ⟨Nat.le_of_ble_eq_true rfl, Nat.le_of_ble_eq_true rfl, ob5 (c5_18 hs)⟩ ?_
    refine yI_use h (fun y4 M3 h => ?_)
    refine And.intro (xi_st (caa_43 hs) (⟨by decide, by decide⟩)) ?_
    obtain ⟨M5, hM5⟩ : ∃ z : xM, z = xup M3 43 (0 : Int) y4 := ⟨_, rfl⟩
    refine xgo_st (e := e) (M := M5) (by subst hM5; rfl) ?_
    replace h := h M5 hM5
    refine And.intro (cob_29 hs) ?_
    refine And.intro ⟨Nat.le_of_ble_eq_true rfl, Nat.le_of_ble_eq_true rfl, cob_29 hs⟩ ?_
    refine zI_use h (fun y8 e7 M6 h => ?_)
    obtain ⟨hle, h⟩ := h
    replace hs := hs.le hle
    clear hle
    refine And.intro (xi_st (caa_41 hs) (h.1)) ?_
    replace h := h.2
    obtain ⟨M9, hM9⟩ : ∃ z : xM, z = xup M6 41 x1 y8 := ⟨_, rfl⟩
    refine xgo_st (e := e7) (M := M9) (by subst hM9; rfl) ?_
    replace h := h M9 hM9
    refine And.intro (cob_29 hs) ?_
    refine And.intro (cob_29 hs) ?_
    refine And.intro ⟨Nat.le_of_ble_eq_true rfl, Nat.le_of_ble_eq_true rfl, ob5 (c5_18 hs)⟩ ?_
    refine yI_use h (fun y11 M10 h => ?_)
    refine And.intro (xi_st (caa_43 hs) (⟨by decide, by decide⟩)) ?_
    obtain ⟨M12, hM12⟩ : ∃ z : xM, z = xup M10 43 (0 : Int) y11 := ⟨_, rfl⟩
    refine xgo_st (e := e7) (M := M12) (by subst hM12; rfl) ?_
    replace h := h M12 hM12
    refine And.intro (cob_29 hs) ?_
    refine And.intro ⟨Nat.le_of_ble_eq_true rfl, Nat.le_of_ble_eq_true rfl, cob_29 hs⟩ ?_
    refine zI_use h (fun y15 e14 M13 h => ?_)
    obtain ⟨hle, h⟩ := h
    replace hs := hs.le hle
    clear hle
    refine And.intro (xi_st (caa_41 hs) (h.1)) ?_
    replace h := h.2
    obtain ⟨M16, hM16⟩ : ∃ z : xM, z = xup M13 41 (x1 + (1 : Int)) y15 := ⟨_, rfl⟩
    refine xgo_st (e := e14) (M := M16) (by subst hM16; rfl) ?_
    replace h := h M16 hM16
    exact zV_ret (r := .inl 0) h
  · replace h := h.2.2 c
    refine And.intro (cob_29 hs) ?_
    refine And.intro (cob_29 hs) ?_
    refine And.intro (xi_ld (caa_41 hs) (h.1)) ?_
    replace h := h.2
    refine And.intro (xi_st (caa_41 hs) (h.1)) ?_
    replace h := h.2
    obtain ⟨M17, hM17⟩ : ∃ z : xM, z = xup M 41 x5 (M 41 (x5 - (1 : Int))) := ⟨_, rfl⟩
    refine xgo_st (e := e) (M := M17) (by subst hM17; rfl) ?_
    replace h := h M17 hM17
    exact h
theorem c_Bu_split {e : yE} {d : Nat} {x1 : Int} {x2 : Int} {M : xM} {Q : yE → xM → Prop} (h : C_Bu_split_0 e d x1 x2 M Q) : C_Bu_split e (d + 1) x1 x2 M Q := h _ _ _
def C_Bu_patternAt_0 (e : yE) (d : Nat) (x1 x2 : Int) (M : xM) (Q : Int → xM → Prop) : Prop := ∀ (o3 o4 : Option xV), xGo xft xNf xmt xtr d 11 0 [some (.inr (some 29)), some (.inl x1), some (.inl x2), o3, o4] [] (yS e M) (yI e Q)
def C_Bu_patternAt_13 (e : yE) (d : Nat) (x2 x3 x4 : Int) (M : xM) (Q : Int → xM → Prop) : Prop := ∀ (o1 : Option xV), xGo xft xNf xmt xtr d 11 13 [some (.inr (some 29)), o1, some (.inl x2), some (.inl x3), some (.inl x4)] [] (yS e M) (yI e Q)
theorem c_Bu_patternAt_0 {e : yE} {d : Nat} {x1 x2 : Int} {M : xM} {Q : Int → xM → Prop} (hs : CSh e) (h :
    ∃ q1 nq1 : Nat, (M 30 2 = (q1 : Int) ∧ yA e q1 1 nq1) ∧ 
    ((0 ≤ x1 ∧ x1 < (nq1 : Int)) ∧ 
    (C_Bu_patternAt_13 e d x2 (M q1 x1) (0 : Int) M Q))) : C_Bu_patternAt_0 e d x1 x2 M Q := by
  intro o3 o4
  refine xGo.in ?_
  refine And.intro (cob_29 hs) ?_
  refine And.intro (ob1 (c1_30 hs)) ?_
  obtain ⟨q1, nq1, ⟨eq1, hq1⟩, h⟩ := h
  refine xgo_top (xg3 (a := 1) (j := 2) rfl eq1) ?_
  refine And.intro (xi_ld (hq1) (h.1)) ?_
  replace h := h.2
  exact h _
theorem c_Bu_patternAt_13 {e : yE} {d : Nat} {x2 x3 x4 : Int} {M : xM} {Q : Int → xM → Prop} (hs : CSh e) (h :
    (rg x4) ∧ (((120 : Int) ≤ x4 → 
      (Q (-1 : Int) M)) ∧ 
    (¬ ((120 : Int) ≤ x4) → 
      ((rg x3) ∧ ((x3 = (-1 : Int) → 
        (Q (-1 : Int) M)) ∧ 
      (¬ (x3 = (-1 : Int)) → 
        (∃ q1 nq1 : Nat, (M 34 1 = (q1 : Int) ∧ yA e q1 1 nq1) ∧ 
        ((0 ≤ x3 ∧ x3 < (nq1 : Int)) ∧ 
        ((rg (M q1 x3) ∧ rg x2) ∧ ((¬ (M q1 x3) = x2 → 
          (∃ q2 nq2 : Nat, (M 34 3 = (q2 : Int) ∧ yA e q2 1 nq2) ∧ 
          ((0 ≤ x3 ∧ x3 < (nq2 : Int)) ∧ 
          (C_Bu_patternAt_13 e d x2 (M q2 x3) (x4 + 1) M Q)))) ∧ 
        (¬ (¬ (M q1 x3) = x2) → 
          (∃ q3 nq3 : Nat, (M 34 2 = (q3 : Int) ∧ yA e q3 1 nq3) ∧ 
          ((0 ≤ x3 ∧ x3 < (nq3 : Int)) ∧ 
          (Q (M q3 x3) M)))))))))))))) : C_Bu_patternAt_13 e d x2 x3 x4 M Q := by
  intro o1
  refine xGo.in ?_
  refine And.intro (⟨h.1, rg_lit (by decide)⟩) (And.intro (fun c => ?_) (fun c => ?_))
  · replace h := h.2.1 c
    exact yI_ret h
  · replace h := h.2.2 c
    refine And.intro (⟨h.1, rg_lit (by decide)⟩) (And.intro (fun c => ?_) (fun c => ?_))
    · replace h := h.2.1 c
      exact yI_ret h
    · replace h := h.2.2 c
      refine And.intro (cob_29 hs) ?_
      refine And.intro (ob1 (c1_34 hs)) ?_
      obtain ⟨q1, nq1, ⟨eq1, hq1⟩, h⟩ := h
      refine xgo_top (xg3 (a := 1) (j := 1) rfl eq1) ?_
      refine And.intro (xi_ld (hq1) (h.1)) ?_
      replace h := h.2
      refine And.intro (⟨h.1.1, h.1.2⟩) (And.intro (fun c => ?_) (fun c => ?_))
      · replace h := h.2.1 c
        refine And.intro (cob_29 hs) ?_
        refine And.intro (ob1 (c1_34 hs)) ?_
        obtain ⟨q2, nq2, ⟨eq2, hq2⟩, h⟩ := h
        refine xgo_top (xg3 (a := 1) (j := 3) rfl eq2) ?_
        refine And.intro (xi_ld (hq2) (h.1)) ?_
        replace h := h.2
        exact h _
      · replace h := h.2.2 c
        refine And.intro (cob_29 hs) ?_
        refine And.intro (ob1 (c1_34 hs)) ?_
        obtain ⟨q3, nq3, ⟨eq3, hq3⟩, h⟩ := h
        refine xgo_top (xg3 (a := 1) (j := 2) rfl eq3) ?_
        refine And.intro (xi_ld (hq3) (h.1)) ?_
        replace h := h.2
        exact yI_ret h
theorem c_Bu_patternAt {e : yE} {d : Nat} {x1 : Int} {x2 : Int} {M : xM} {Q : Int → xM → Prop} (h : C_Bu_patternAt_0 e d x1 x2 M Q) : C_Bu_patternAt e (d + 1) x1 x2 M Q := h _ _
def C_Bu_putParts_0 (e : yE) (d : Nat) (x1 x2 x3 : Int) (M : xM) (Q : Int → yE → xM → Prop) : Prop := ∀ (o4 o5 o6 o7 o8 : Option xV), xGo xft xNf xmt xtr d 12 0 [some (.inr (some 29)), some (.inl x1), some (.inl x2), some (.inl x3), o4, o5, o6, o7, o8] [] (yS e M) (zI Q)
def C_Bu_putParts_14 (e : yE) (d : Nat) (x1 x2 x3 x4 x5 : Int) (M : xM) (Q : Int → yE → xM → Prop) : Prop := ∀ (o6 o7 o8 : Option xV), xGo xft xNf xmt xtr d 12 14 [some (.inr (some 29)), some (.inl x1), some (.inl x2), some (.inl x3), some (.inl x4), some (.inl x5), o6, o7, o8] [] (yS e M) (zI Q)
def C_Bu_putParts_68 (e : yE) (d : Nat) (x1 x3 x4 x5 : Int) (M : xM) (Q : Int → yE → xM → Prop) : Prop := ∀ (o2 o6 o7 o8 : Option xV), xGo xft xNf xmt xtr d 12 68 [some (.inr (some 29)), some (.inl x1), o2, some (.inl x3), some (.inl x4), some (.inl x5), o6, o7, o8] [] (yS e M) (zI Q)
def C_Bu_putParts_88 (e : yE) (d : Nat) (x1 x3 x5 s0 : Int) (M : xM) (Q : Int → yE → xM → Prop) : Prop := ∀ (o2 o4 o6 o7 o8 : Option xV), xGo xft xNf xmt xtr d 12 88 [some (.inr (some 29)), some (.inl x1), o2, some (.inl x3), o4, some (.inl x5), o6, o7, o8] [.inl s0] (yS e M) (zI Q)
def C_Bu_putParts_111 (e : yE) (d : Nat) (x1 x3 x5 x6 x7 : Int) (M : xM) (Q : Int → yE → xM → Prop) : Prop := ∀ (o2 o4 o8 : Option xV), xGo xft xNf xmt xtr d 12 111 [some (.inr (some 29)), some (.inl x1), o2, some (.inl x3), o4, some (.inl x5), some (.inl x6), some (.inl x7), o8] [] (yS e M) (zI Q)
def C_Bu_putParts_168 (e : yE) (d : Nat) (x1 x6 x7 : Int) (M : xM) (Q : Int → yE → xM → Prop) : Prop := ∀ (o2 o3 o4 o5 o8 : Option xV), xGo xft xNf xmt xtr d 12 168 [some (.inr (some 29)), some (.inl x1), o2, o3, o4, o5, some (.inl x6), some (.inl x7), o8] [] (yS e M) (zI Q)
theorem c_Bu_putParts_0 {e : yE} {d : Nat} {x1 x2 x3 : Int} {M : xM} {Q : Int → yE → xM → Prop} (hs : CSh e) (h :
    ∃ q1 nq1 : Nat, (M 30 2 = (q1 : Int) ∧ yA e q1 1 nq1) ∧ 
    ((0 ≤ x1 ∧ x1 < (nq1 : Int)) ∧ 
    (C_Bu_putParts_14 e d x1 x2 x3 (M q1 x1) (0 : Int) M Q))) : C_Bu_putParts_0 e d x1 x2 x3 M Q := by
  intro o4 o5 o6 o7 o8
  refine xGo.in ?_
  refine And.intro (cob_29 hs) ?_
  refine And.intro (ob1 (c1_30 hs)) ?_
  obtain ⟨q1, nq1, ⟨eq1, hq1⟩, h⟩ := h
  refine xgo_top (xg3 (a := 1) (j := 2) rfl eq1) ?_
  refine And.intro (xi_ld (hq1) (h.1)) ?_
  replace h := h.2
  exact h _ _ _
theorem c_Bu_putParts_14 {e : yE} {d : Nat} {x1 x2 x3 x4 x5 : Int} {M : xM} {Q : Int → yE → xM → Prop} (hs : CSh e) (h :
    (rg x5) ∧ (((120 : Int) ≤ x5 → 
      (C_Bu_putParts_68 e d x1 x3 x4 x5 M Q)) ∧ 
    (¬ ((120 : Int) ≤ x5) → 
      ((rg x4) ∧ ((x4 = (-1 : Int) → 
        (C_Bu_putParts_68 e d x1 x3 x4 x5 M Q)) ∧ 
      (¬ (x4 = (-1 : Int)) → 
        (∃ q1 nq1 : Nat, (M 34 1 = (q1 : Int) ∧ yA e q1 1 nq1) ∧ 
        ((0 ≤ x4 ∧ x4 < (nq1 : Int)) ∧ 
        ((rg (M q1 x4) ∧ rg x2) ∧ (((M q1 x4) = x2 → 
          (C_Bu_putParts_68 e d x1 x3 x4 x5 M Q)) ∧ 
        (¬ ((M q1 x4) = x2) → 
          ((0 ≤ x5 ∧ x5 < 120) ∧ 
          (∀ M2 : xM, M2 = xup M 44 x5 x4 → 
          (∃ q3 nq3 : Nat, (M2 34 3 = (q3 : Int) ∧ yA e q3 1 nq3) ∧ 
          ((0 ≤ x4 ∧ x4 < (nq3 : Int)) ∧ 
          (C_Bu_putParts_14 e d x1 x2 x3 (M2 q3 x4) (x5 + 1) M2 Q)))))))))))))))) : C_Bu_putParts_14 e d x1 x2 x3 x4 x5 M Q := by
  intro o6 o7 o8
  refine xGo.in ?_
  refine And.intro (⟨h.1, rg_lit (by decide)⟩) (And.intro (fun c => ?_) (fun c => ?_))
  · replace h := h.2.1 c
    exact h _ _ _ _
  · replace h := h.2.2 c
    refine And.intro (⟨h.1, rg_lit (by decide)⟩) (And.intro (fun c => ?_) (fun c => ?_))
    · replace h := h.2.1 c
      exact h _ _ _ _
    · replace h := h.2.2 c
      refine And.intro (cob_29 hs) ?_
      refine And.intro (ob1 (c1_34 hs)) ?_
      obtain ⟨q1, nq1, ⟨eq1, hq1⟩, h⟩ := h
      refine xgo_top (xg3 (a := 1) (j := 1) rfl eq1) ?_
      refine And.intro (xi_ld (hq1) (h.1)) ?_
      replace h := h.2
      refine And.intro (⟨h.1.1, h.1.2⟩) (And.intro (fun c => ?_) (fun c => ?_))
      · replace h := h.2.1 c
        exact h _ _ _ _
      · replace h := h.2.2 c
        refine And.intro (cob_29 hs) ?_
        refine And.intro (xi_st (caa_44 hs) (h.1)) ?_
        replace h := h.2
        obtain ⟨M2, hM2⟩ : ∃ z : xM, z = xup M 44 x5 x4 := ⟨_, rfl⟩
        refine xgo_st (e := e) (M := M2) (by subst hM2; rfl) ?_
        replace h := h M2 hM2
        refine And.intro (cob_29 hs) ?_
        refine And.intro (ob1 (c1_34 hs)) ?_
        obtain ⟨q3, nq3, ⟨eq3, hq3⟩, h⟩ := h
        refine xgo_top (xg3 (a := 1) (j := 3) rfl eq3) ?_
        refine And.intro (xi_ld (hq3) (h.1)) ?_
        replace h := h.2
        exact h _ _ _
theorem c_Bu_putParts_68 {e : yE} {d : Nat} {x1 x3 x4 x5 : Int} {M : xM} {Q : Int → yE → xM → Prop} (hs : CSh e) (h :
    (rg x4) ∧ ((¬ x4 = (-1 : Int) → 
      (∃ q1 nq1 : Nat, (M 34 3 = (q1 : Int) ∧ yA e q1 1 nq1) ∧ 
      ((0 ≤ x4 ∧ x4 < (nq1 : Int)) ∧ 
      (C_Bu_putParts_88 e d x1 x3 x5 (M q1 x4) M Q)))) ∧ 
    (¬ (¬ x4 = (-1 : Int)) → 
      (C_Bu_putParts_88 e d x1 x3 x5 (-1 : Int) M Q)))) : C_Bu_putParts_68 e d x1 x3 x4 x5 M Q := by
  intro o2 o6 o7 o8
  refine xGo.in ?_
  refine And.intro (⟨h.1, rg_lit (by decide)⟩) (And.intro (fun c => ?_) (fun c => ?_))
  · replace h := h.2.1 c
    refine And.intro (cob_29 hs) ?_
    refine And.intro (ob1 (c1_34 hs)) ?_
    obtain ⟨q1, nq1, ⟨eq1, hq1⟩, h⟩ := h
    refine xgo_top (xg3 (a := 1) (j := 3) rfl eq1) ?_
    refine And.intro (xi_ld (hq1) (h.1)) ?_
    replace h := h.2
    exact h _ _ _ _ _
  · replace h := h.2.2 c
    exact h _ _ _ _ _
theorem c_Bu_putParts_88 {e : yE} {d : Nat} {x1 x3 x5 s0 : Int} {M : xM} {Q : Int → yE → xM → Prop} (hs : CSh e) (h :
    ∃ q1 nq1 : Nat, (M 30 3 = (q1 : Int) ∧ yA e q1 1 nq1) ∧ 
    ((0 ≤ x1 ∧ x1 < (nq1 : Int)) ∧ 
    (∀ M2 : xM, M2 = xup M 29 15 (M q1 x1) → 
    (C_Bu_putParts_111 e d x1 x3 x5 s0 ((M2 29 13) - (1 : Int)) M2 Q)))) : C_Bu_putParts_88 e d x1 x3 x5 s0 M Q := by
  intro o2 o4 o6 o7 o8
  refine xGo.in ?_
  refine And.intro (cob_29 hs) ?_
  refine And.intro (ob1 (c1_30 hs)) ?_
  obtain ⟨q1, nq1, ⟨eq1, hq1⟩, h⟩ := h
  refine xgo_top (xg3 (a := 1) (j := 3) rfl eq1) ?_
  refine And.intro (xi_ld (hq1) (h.1)) ?_
  replace h := h.2
  refine And.intro (cob_29 hs) ?_
  obtain ⟨M2, hM2⟩ : ∃ z : xM, z = xup M 29 15 (M q1 x1) := ⟨_, rfl⟩
  refine xgo_st (e := e) (M := M2) (by subst hM2; rfl) ?_
  replace h := h M2 hM2
  refine And.intro (cob_29 hs) ?_
  exact h _ _ _
theorem c_Bu_putParts_111 {e : yE} {d : Nat} {x1 x3 x5 x6 x7 : Int} {M : xM} {Q : Int → yE → xM → Prop} (hs : CSh e) (h :
    (rg x7) ∧ ((x7 < 0 → 
      (C_Bu_putParts_168 e d x1 x6 (x5 - (1 : Int)) M Q)) ∧ 
    (¬ (x7 < 0) → 
      ((0 ≤ x7 ∧ x7 < 3) ∧ 
      (C_Bu_stripNames e d (M 43 x7) (x3 + x7) M (fun y3 e2 M1 => 
      yLe e e2 ∧ ((rg y3) ∧ ((y3 = (-1 : Int) → 
        (C_Bu_putParts_111 e2 d x1 x3 x5 x6 (x7 + (-1 : Int)) M1 Q)) ∧ 
      (¬ (y3 = (-1 : Int)) → 
        (C_Ce_add e2 d 34 (x3 + x7) y3 x6 M1 (fun y6 e5 M4 => 
        yLe e2 e5 ∧ (C_Bu_putParts_111 e5 d x1 x3 x5 y6 (x7 + (-1 : Int)) M4 Q)))))))))))) : C_Bu_putParts_111 e d x1 x3 x5 x6 x7 M Q := by
  intro o2 o4 o8
  refine xGo.in ?_
  refine And.intro (h.1) (And.intro (fun c => ?_) (fun c => ?_))
  · replace h := h.2.1 c
    exact h _ _ _ _ _
  · replace h := h.2.2 c
    refine And.intro (cob_29 hs) ?_
    refine And.intro (xi_ld (caa_43 hs) (h.1)) ?_
    replace h := h.2
    refine And.intro ⟨Nat.le_of_ble_eq_true rfl, Nat.le_of_ble_eq_true rfl, cob_29 hs⟩ ?_
    refine zI_use h (fun y3 e2 M1 h => ?_)
    obtain ⟨hle, h⟩ := h
    replace hs := hs.le hle
    clear hle
    refine And.intro (⟨h.1, rg_lit (by decide)⟩) (And.intro (fun c => ?_) (fun c => ?_))
    · replace h := h.2.1 c
      exact h _ _ _
    · replace h := h.2.2 c
      refine And.intro (cob_29 hs) ?_
      refine And.intro ⟨Nat.le_of_ble_eq_true rfl, Nat.le_of_ble_eq_true rfl, ob1 (c1_34 hs)⟩ ?_
      refine zI_use h (fun y6 e5 M4 h => ?_)
      obtain ⟨hle, h⟩ := h
      replace hs := hs.le hle
      clear hle
      exact h _ _ _
theorem c_Bu_putParts_168 {e : yE} {d : Nat} {x1 x6 x7 : Int} {M : xM} {Q : Int → yE → xM → Prop} (hs : CSh e) (h :
    (rg x7) ∧ ((x7 < 0 → 
      (∃ q1 nq1 : Nat, (M 30 1 = (q1 : Int) ∧ yA e q1 1 nq1) ∧ 
      ((0 ≤ x1 ∧ x1 < (nq1 : Int)) ∧ 
      (C_Ce_add e d 30 (M q1 x1) x6 (M 29 15) M (fun y4 e3 M2 => 
      yLe e e3 ∧ (Q y4 e3 M2)))))) ∧ 
    (¬ (x7 < 0) → 
      (∃ q5 nq5 : Nat, (M 34 1 = (q5 : Int) ∧ yA e q5 1 nq5) ∧ 
      ((0 ≤ x7 ∧ x7 < 120) ∧ 
      ((0 ≤ (M 44 x7) ∧ (M 44 x7) < (nq5 : Int)) ∧ 
      (∃ q6 nq6 : Nat, (M 34 2 = (q6 : Int) ∧ yA e q6 1 nq6) ∧ 
      ((0 ≤ x7 ∧ x7 < 120) ∧ 
      ((0 ≤ (M 44 x7) ∧ (M 44 x7) < (nq6 : Int)) ∧ 
      (C_Ce_add e d 34 (M q5 (M 44 x7)) (M q6 (M 44 x7)) x6 M (fun y9 e8 M7 => 
      yLe e e8 ∧ (C_Bu_putParts_168 e8 d x1 y9 (x7 + (-1 : Int)) M7 Q)))))))))))) : C_Bu_putParts_168 e d x1 x6 x7 M Q := by
  intro o2 o3 o4 o5 o8
  refine xGo.in ?_
  refine And.intro (h.1) (And.intro (fun c => ?_) (fun c => ?_))
  · replace h := h.2.1 c
    refine And.intro (cob_29 hs) ?_
    refine And.intro (cob_29 hs) ?_
    refine And.intro (ob1 (c1_30 hs)) ?_
    obtain ⟨q1, nq1, ⟨eq1, hq1⟩, h⟩ := h
    refine xgo_top (xg3 (a := 1) (j := 1) rfl eq1) ?_
    refine And.intro (xi_ld (hq1) (h.1)) ?_
    replace h := h.2
    refine And.intro (cob_29 hs) ?_
    refine And.intro ⟨Nat.le_of_ble_eq_true rfl, Nat.le_of_ble_eq_true rfl, ob1 (c1_30 hs)⟩ ?_
    refine zI_use h (fun y4 e3 M2 h => ?_)
    obtain ⟨hle, h⟩ := h
    replace hs := hs.le hle
    replace hq1 := hq1.le hle
    clear hle
    exact zI_ret h
  · replace h := h.2.2 c
    refine And.intro (cob_29 hs) ?_
    refine And.intro (cob_29 hs) ?_
    refine And.intro (ob1 (c1_34 hs)) ?_
    obtain ⟨q5, nq5, ⟨eq5, hq5⟩, h⟩ := h
    refine xgo_top (xg3 (a := 1) (j := 1) rfl eq5) ?_
    refine And.intro (cob_29 hs) ?_
    refine And.intro (xi_ld (caa_44 hs) (h.1)) ?_
    replace h := h.2
    refine And.intro (xi_ld (hq5) (h.1)) ?_
    replace h := h.2
    refine And.intro (cob_29 hs) ?_
    refine And.intro (ob1 (c1_34 hs)) ?_
    obtain ⟨q6, nq6, ⟨eq6, hq6⟩, h⟩ := h
    refine xgo_top (xg3 (a := 1) (j := 2) rfl eq6) ?_
    refine And.intro (cob_29 hs) ?_
    refine And.intro (xi_ld (caa_44 hs) (h.1)) ?_
    replace h := h.2
    refine And.intro (xi_ld (hq6) (h.1)) ?_
    replace h := h.2
    refine And.intro ⟨Nat.le_of_ble_eq_true rfl, Nat.le_of_ble_eq_true rfl, ob1 (c1_34 hs)⟩ ?_
    refine zI_use h (fun y9 e8 M7 h => ?_)
    obtain ⟨hle, h⟩ := h
    replace hs := hs.le hle
    replace hq5 := hq5.le hle
    replace hq6 := hq6.le hle
    clear hle
    exact h _ _ _ _ _
theorem c_Bu_putParts {e : yE} {d : Nat} {x1 : Int} {x2 : Int} {x3 : Int} {M : xM} {Q : Int → yE → xM → Prop} (h : C_Bu_putParts_0 e d x1 x2 x3 M Q) : C_Bu_putParts e (d + 1) x1 x2 x3 M Q := h _ _ _ _ _
def C_Bu_stripNames_0 (e : yE) (d : Nat) (x1 x2 : Int) (M : xM) (Q : Int → yE → xM → Prop) : Prop := ∀ (o3 o4 : Option xV), xGo xft xNf xmt xtr d 13 0 [some (.inr (some 29)), some (.inl x1), some (.inl x2), o3, o4] [] (yS e M) (zI Q)
def C_Bu_stripNames_5 (e : yE) (d : Nat) (x2 x3 x4 : Int) (M : xM) (Q : Int → yE → xM → Prop) : Prop := ∀ (o1 : Option xV), xGo xft xNf xmt xtr d 13 5 [some (.inr (some 29)), o1, some (.inl x2), some (.inl x3), some (.inl x4)] [] (yS e M) (zI Q)
def C_Bu_stripNames_66 (e : yE) (d : Nat) (x2 x3 : Int) (M : xM) (Q : Int → yE → xM → Prop) : Prop := ∀ (o1 o4 : Option xV), xGo xft xNf xmt xtr d 13 66 [some (.inr (some 29)), o1, some (.inl x2), some (.inl x3), o4] [] (yS e M) (zI Q)
theorem c_Bu_stripNames_0 {e : yE} {d : Nat} {x1 x2 : Int} {M : xM} {Q : Int → yE → xM → Prop} (hs : CSh e) (h :
    C_Bu_stripNames_5 e d x2 x1 (0 : Int) M Q) : C_Bu_stripNames_0 e d x1 x2 M Q := by
  intro o3 o4
  refine xGo.in ?_
  exact h _
theorem c_Bu_stripNames_5 {e : yE} {d : Nat} {x2 x3 x4 : Int} {M : xM} {Q : Int → yE → xM → Prop} (hs : CSh e) (h :
    (rg x4) ∧ (((40 : Int) ≤ x4 → 
      (C_Bu_stripNames_66 e d x2 x3 M Q)) ∧ 
    (¬ ((40 : Int) ≤ x4) → 
      ((0 ≤ x3 ∧ x3 < 300) ∧ 
      ((rg (M 19 x3)) ∧ ((¬ (M 19 x3) = (2 : Int) → 
        (C_Bu_stripNames_66 e d x2 x3 M Q)) ∧ 
      (¬ (¬ (M 19 x3) = (2 : Int)) → 
        ((0 ≤ x3 ∧ x3 < 300) ∧ 
        (C_Ce_add e d 34 x2 (M 21 x3) (M 29 15) M (fun y3 e2 M1 => 
        yLe e e2 ∧ (∀ M4 : xM, M4 = xup M1 29 15 y3 → 
        (C_Tm_partOf e2 d 18 x3 (0 : Int) M4 (fun y6 M5 => 
        C_Bu_stripNames_5 e2 d x2 y6 (x4 + 1) M5 Q))))))))))))) : C_Bu_stripNames_5 e d x2 x3 x4 M Q := by
  intro o1
  refine xGo.in ?_
  refine And.intro (⟨h.1, rg_lit (by decide)⟩) (And.intro (fun c => ?_) (fun c => ?_))
  · replace h := h.2.1 c
    exact h _ _
  · replace h := h.2.2 c
    refine And.intro (cob_29 hs) ?_
    refine And.intro (ob5 (c5_18 hs)) ?_
    refine And.intro (xi_ld (caa_19 hs) (h.1)) ?_
    replace h := h.2
    refine And.intro (⟨h.1, rg_lit (by decide)⟩) (And.intro (fun c => ?_) (fun c => ?_))
    · replace h := h.2.1 c
      exact h _ _
    · replace h := h.2.2 c
      refine And.intro (cob_29 hs) ?_
      refine And.intro (cob_29 hs) ?_
      refine And.intro (ob5 (c5_18 hs)) ?_
      refine And.intro (xi_ld (caa_21 hs) (h.1)) ?_
      replace h := h.2
      refine And.intro (cob_29 hs) ?_
      refine And.intro ⟨Nat.le_of_ble_eq_true rfl, Nat.le_of_ble_eq_true rfl, ob1 (c1_34 hs)⟩ ?_
      refine zI_use h (fun y3 e2 M1 h => ?_)
      obtain ⟨hle, h⟩ := h
      replace hs := hs.le hle
      clear hle
      refine And.intro (cob_29 hs) ?_
      obtain ⟨M4, hM4⟩ : ∃ z : xM, z = xup M1 29 15 y3 := ⟨_, rfl⟩
      refine xgo_st (e := e2) (M := M4) (by subst hM4; rfl) ?_
      replace h := h M4 hM4
      refine And.intro (cob_29 hs) ?_
      refine And.intro ⟨Nat.le_of_ble_eq_true rfl, Nat.le_of_ble_eq_true rfl, ob5 (c5_18 hs)⟩ ?_
      refine yI_use h (fun y6 M5 h => ?_)
      exact h _
theorem c_Bu_stripNames_66 {e : yE} {d : Nat} {x2 x3 : Int} {M : xM} {Q : Int → yE → xM → Prop} (hs : CSh e) (h :
    (0 ≤ x3 ∧ x3 < 300) ∧ 
    ((rg (M 19 x3)) ∧ ((¬ (M 19 x3) = (1 : Int) → 
      ((0 ≤ x3 ∧ x3 < 300) ∧ 
      ((rg (M 19 x3)) ∧ ((¬ (M 19 x3) = 0 → 
        (Q x3 e M)) ∧ 
      (¬ (¬ (M 19 x3) = 0) → 
        (Q (-1 : Int) e M)))))) ∧ 
    (¬ (¬ (M 19 x3) = (1 : Int)) → 
      ((0 ≤ x3 ∧ x3 < 300) ∧ 
      (C_Ce_add e d 34 x2 (M 21 x3) (M 29 15) M (fun y3 e2 M1 => 
      yLe e e2 ∧ (∀ M4 : xM, M4 = xup M1 29 15 y3 → 
      (Q (-1 : Int) e2 M4))))))))) : C_Bu_stripNames_66 e d x2 x3 M Q := by
  intro o1 o4
  refine xGo.in ?_
  refine And.intro (cob_29 hs) ?_
  refine And.intro (ob5 (c5_18 hs)) ?_
  refine And.intro (xi_ld (caa_19 hs) (h.1)) ?_
  replace h := h.2
  refine And.intro (⟨h.1, rg_lit (by decide)⟩) (And.intro (fun c => ?_) (fun c => ?_))
  · replace h := h.2.1 c
    refine And.intro (cob_29 hs) ?_
    refine And.intro (ob5 (c5_18 hs)) ?_
    refine And.intro (xi_ld (caa_19 hs) (h.1)) ?_
    replace h := h.2
    refine And.intro (h.1) (And.intro (fun c => ?_) (fun c => ?_))
    · replace h := h.2.1 c
      exact zI_ret h
    · replace h := h.2.2 c
      exact zI_ret h
  · replace h := h.2.2 c
    refine And.intro (cob_29 hs) ?_
    refine And.intro (cob_29 hs) ?_
    refine And.intro (ob5 (c5_18 hs)) ?_
    refine And.intro (xi_ld (caa_21 hs) (h.1)) ?_
    replace h := h.2
    refine And.intro (cob_29 hs) ?_
    refine And.intro ⟨Nat.le_of_ble_eq_true rfl, Nat.le_of_ble_eq_true rfl, ob1 (c1_34 hs)⟩ ?_
    refine zI_use h (fun y3 e2 M1 h => ?_)
    obtain ⟨hle, h⟩ := h
    replace hs := hs.le hle
    clear hle
    refine And.intro (cob_29 hs) ?_
    obtain ⟨M4, hM4⟩ : ∃ z : xM, z = xup M1 29 15 y3 := ⟨_, rfl⟩
    refine xgo_st (e := e2) (M := M4) (by subst hM4; rfl) ?_
    replace h := h M4 hM4
    exact zI_ret h
theorem c_Bu_stripNames {e : yE} {d : Nat} {x1 : Int} {x2 : Int} {M : xM} {Q : Int → yE → xM → Prop} (h : C_Bu_stripNames_0 e d x1 x2 M Q) : C_Bu_stripNames e (d + 1) x1 x2 M Q := h _ _
def C_Bu_endNode_0 (e : yE) (d : Nat) (x1 : Int) (M : xM) (Q : xM → Prop) : Prop := ∀ (o2 o3 o4 o5 : Option xV), xGo xft xNf xmt xtr d 14 0 [some (.inr (some 29)), some (.inl x1), o2, o3, o4, o5] [] (yS e M) (yV e Q)
def C_Bu_endNode_142 (e : yE) (d : Nat) (x4 x5 : Int) (M : xM) (Q : xM → Prop) : Prop := ∀ (o1 o2 o3 : Option xV), xGo xft xNf xmt xtr d 14 142 [some (.inr (some 29)), o1, o2, o3, some (.inl x4), some (.inl x5)] [] (yS e M) (yV e Q)
theorem c_Bu_endNode_0 {e : yE} {d : Nat} {x1 : Int} {M : xM} {Q : xM → Prop} (hs : CSh e) (h :
    ∃ q1 : Nat, (M 29 17 = (q1 : Int) ∧ XSh6 q1 e) ∧ 
    ((rg (M q1 0)) ∧ (((M q1 0) = 0 → 
      ((rg (M 29 9)) ∧ ((¬ (M 29 9) = 0 → 
        (∃ q2 nq2 : Nat, (M 30 1 = (q2 : Int) ∧ yA e q2 1 nq2) ∧ 
        ((0 ≤ (M 41 (0 : Int)) ∧ (M 41 (0 : Int)) < (nq2 : Int)) ∧ 
        (∃ q3 : Nat, (M 29 17 = (q3 : Int) ∧ XSh6 q3 e) ∧ 
        ((0 ≤ x1 ∧ x1 < 120) ∧ 
        (∀ M4 : xM, M4 = xup M (q3 + 4) x1 (M q2 (M 41 (0 : Int))) → 
        (∃ q5 : Nat, (M4 29 17 = (q5 : Int) ∧ XSh6 q5 e) ∧ 
        (∀ M6 : xM, M6 = xup M4 q5 2 (xor32 (M4 q5 2) (xshl32 (1 : Int) (M q2 (M 41 (0 : Int))))) → 
        (∃ q7 nq7 : Nat, (M6 30 3 = (q7 : Int) ∧ yA e q7 1 nq7) ∧ 
        ((0 ≤ (M 41 (0 : Int)) ∧ (M 41 (0 : Int)) < (nq7 : Int)) ∧ 
        (C_Bu_tellNames e d x1 (M6 q7 (M 41 (0 : Int))) M6 (fun M8 => 
        ∃ q9 : Nat, (M8 29 16 = (q9 : Int) ∧ XSh3 q9 e) ∧ 
        (C_Ma_isGuarded e d q9 (M q2 (M 41 (0 : Int))) M8 (fun y11 M10 => 
        (rg y11) ∧ ((¬ y11 = 0 → 
          (∃ q12 : Nat, (M10 29 17 = (q12 : Int) ∧ XSh6 q12 e) ∧ 
          (C_Tr_become e d q12 x1 (1 : Int) M10 (fun M13 => 
          ∃ q14 : Nat, (M13 29 17 = (q14 : Int) ∧ XSh6 q14 e) ∧ 
          (C_Tr_addBranches e d q14 x1 (1 : Int) M13 (fun y16 M15 => 
          (rg y16) ∧ ((y16 = (-1 : Int) → 
            (Q M15)) ∧ 
          (¬ (y16 = (-1 : Int)) → 
            ((0 ≤ y16 ∧ y16 < 120) ∧ 
            (∀ M17 : xM, M17 = xup M15 40 y16 (0 : Int) → 
            (C_Bu_endNode_142 e d y16 (1 : Int) M17 Q))))))))))) ∧ 
        (¬ (¬ y11 = 0) → 
          (∃ q18 : Nat, (M10 29 17 = (q18 : Int) ∧ XSh6 q18 e) ∧ 
          (C_Tr_become e d q18 x1 (2 : Int) M10 (fun M19 => 
          Q M19))))))))))))))))))) ∧ 
      (¬ (¬ (M 29 9) = 0) → 
        (∃ q20 : Nat, (M 29 17 = (q20 : Int) ∧ XSh6 q20 e) ∧ 
        (C_Tr_become e d q20 x1 (3 : Int) M (fun M21 => 
        Q M21))))))) ∧ 
    (¬ ((M q1 0) = 0) → 
      (Q M))))) : C_Bu_endNode_0 e d x1 M Q := by
  intro o2 o3 o4 o5
  refine xGo.in ?_
  refine And.intro (cob_29 hs) ?_
  obtain ⟨q1, ⟨eq1, hq1⟩, h⟩ := h
  refine xgo_top (xg3 (a := 0) (j := 17) rfl eq1) ?_
  refine And.intro (ob6 hq1) ?_
  refine And.intro (h.1) (And.intro (fun c => ?_) (fun c => ?_))
  · replace h := h.2.1 c
    refine And.intro (cob_29 hs) ?_
    refine And.intro (h.1) (And.intro (fun c => ?_) (fun c => ?_))
    · replace h := h.2.1 c
      refine And.intro (cob_29 hs) ?_
      refine And.intro (xi_ld (caa_41 hs) (⟨by decide, by decide⟩)) ?_
      refine And.intro (cob_29 hs) ?_
      refine And.intro (ob1 (c1_30 hs)) ?_
      obtain ⟨q2, nq2, ⟨eq2, hq2⟩, h⟩ := h
      refine xgo_top (xg3 (a := 1) (j := 1) rfl eq2) ?_
      refine And.intro (xi_ld (hq2) (h.1)) ?_
      replace h := h.2
      refine And.intro (cob_29 hs) ?_
      obtain ⟨q3, ⟨eq3, hq3⟩, h⟩ := h
      refine xgo_top (xg3 (a := 0) (j := 17) rfl eq3) ?_
      refine And.intro (ob6 hq3) ?_
      refine And.intro (xi_st (a6_4 hq3) (h.1)) ?_
      replace h := h.2
      obtain ⟨M4, hM4⟩ : ∃ z : xM, z = xup M (q3 + 4) x1 (M q2 (M 41 (0 : Int))) := ⟨_, rfl⟩
      refine xgo_st (e := e) (M := M4) (by subst hM4; rfl) ?_
      replace h := h M4 hM4
      refine And.intro (cob_29 hs) ?_
      obtain ⟨q5, ⟨eq5, hq5⟩, h⟩ := h
      refine xgo_top (xg3 (a := 0) (j := 17) rfl eq5) ?_
      refine And.intro (ob6 hq5) ?_
      refine And.intro (ob6 hq5) ?_
      obtain ⟨M6, hM6⟩ : ∃ z : xM, z = xup M4 q5 2 (xor32 (M4 q5 2) (xshl32 (1 : Int) (M q2 (M 41 (0 : Int))))) := ⟨_, rfl⟩
      refine xgo_st (e := e) (M := M6) (by subst hM6; rfl) ?_
      replace h := h M6 hM6
      refine And.intro (cob_29 hs) ?_
      refine And.intro (ob1 (c1_30 hs)) ?_
      obtain ⟨q7, nq7, ⟨eq7, hq7⟩, h⟩ := h
      refine xgo_top (xg3 (a := 1) (j := 3) rfl eq7) ?_
      refine And.intro (xi_ld (hq7) (h.1)) ?_
      replace h := h.2
      refine And.intro ⟨Nat.le_of_ble_eq_true rfl, Nat.le_of_ble_eq_true rfl, cob_29 hs⟩ ?_
      refine yV_use h (fun _ M8 h => ?_)
      refine And.intro (cob_29 hs) ?_
      obtain ⟨q9, ⟨eq9, hq9⟩, h⟩ := h
      refine xgo_top (xg3 (a := 0) (j := 16) rfl eq9) ?_
      refine And.intro ⟨Nat.le_of_ble_eq_true rfl, Nat.le_of_ble_eq_true rfl, ob3 hq9⟩ ?_
      refine yI_use h (fun y11 M10 h => ?_)
      refine And.intro (h.1) (And.intro (fun c => ?_) (fun c => ?_))
      · replace h := h.2.1 c
        refine And.intro (cob_29 hs) ?_
        obtain ⟨q12, ⟨eq12, hq12⟩, h⟩ := h
        refine xgo_top (xg3 (a := 0) (j := 17) rfl eq12) ?_
        refine And.intro ⟨Nat.le_of_ble_eq_true rfl, Nat.le_of_ble_eq_true rfl, ob6 hq12⟩ ?_
        refine yV_use h (fun _ M13 h => ?_)
        refine And.intro (cob_29 hs) ?_
        obtain ⟨q14, ⟨eq14, hq14⟩, h⟩ := h
        refine xgo_top (xg3 (a := 0) (j := 17) rfl eq14) ?_
        refine And.intro ⟨Nat.le_of_ble_eq_true rfl, Nat.le_of_ble_eq_true rfl, ob6 hq14⟩ ?_
        refine yI_use h (fun y16 M15 h => ?_)
        refine And.intro (⟨h.1, rg_lit (by decide)⟩) (And.intro (fun c => ?_) (fun c => ?_))
        · replace h := h.2.1 c
          exact yV_ret (r := .inl 0) h
        · replace h := h.2.2 c
          refine And.intro (cob_29 hs) ?_
          refine And.intro (xi_st (caa_40 hs) (h.1)) ?_
          replace h := h.2
          obtain ⟨M17, hM17⟩ : ∃ z : xM, z = xup M15 40 y16 (0 : Int) := ⟨_, rfl⟩
          refine xgo_st (e := e) (M := M17) (by subst hM17; rfl) ?_
          replace h := h M17 hM17
          exact h _ _ _
      · replace h := h.2.2 c
        refine And.intro (cob_29 hs) ?_
        obtain ⟨q18, ⟨eq18, hq18⟩, h⟩ := h
        refine xgo_top (xg3 (a := 0) (j := 17) rfl eq18) ?_
        refine And.intro ⟨Nat.le_of_ble_eq_true rfl, Nat.le_of_ble_eq_true rfl, ob6 hq18⟩ ?_
        refine yV_use h (fun _ M19 h => ?_)
        exact yV_ret (r := .inl 0) h
    · replace h := h.2.2 c
      refine And.intro (cob_29 hs) ?_
      obtain ⟨q20, ⟨eq20, hq20⟩, h⟩ := h
      refine xgo_top (xg3 (a := 0) (j := 17) rfl eq20) ?_
      refine And.intro ⟨Nat.le_of_ble_eq_true rfl, Nat.le_of_ble_eq_true rfl, ob6 hq20⟩ ?_
      refine yV_use h (fun _ M21 h => ?_)
      exact yV_ret (r := .inl 0) h
  · replace h := h.2.2 c
    exact yV_ret (r := .inl 0) h
theorem c_Bu_endNode_142 {e : yE} {d : Nat} {x4 x5 : Int} {M : xM} {Q : xM → Prop} (hs : CSh e) (h :
    (rg x5 ∧ rg (M 29 9)) ∧ (((M 29 9) ≤ x5 → 
      (C_Bu_putOff e d x4 (1 : Int) M (fun M1 => 
      Q M1))) ∧ 
    (¬ ((M 29 9) ≤ x5) → 
      ((0 ≤ x5 ∧ x5 < 24) ∧ 
      (C_Bu_keep e d x4 (M 41 x5) M (fun M2 => 
      C_Bu_endNode_142 e d x4 (x5 + 1) M2 Q)))))) : C_Bu_endNode_142 e d x4 x5 M Q := by
  intro o1 o2 o3
  refine xGo.in ?_
  refine And.intro (cob_29 hs) ?_
  refine And.intro (⟨h.1.1, h.1.2⟩) (And.intro (fun c => ?_) (fun c => ?_))
  · replace h := h.2.1 c
    refine And.intro ⟨Nat.le_of_ble_eq_true rfl, Nat.le_of_ble_eq_true rfl, cob_29 hs⟩ ?_
    refine yV_use h (fun _ M1 h => ?_)
    exact yV_ret (r := .inl 0) h
  · replace h := h.2.2 c
    refine And.intro (cob_29 hs) ?_
    refine And.intro (xi_ld (caa_41 hs) (h.1)) ?_
    replace h := h.2
    refine And.intro ⟨Nat.le_of_ble_eq_true rfl, Nat.le_of_ble_eq_true rfl, cob_29 hs⟩ ?_
    refine yV_use h (fun _ M2 h => ?_)
    exact h _ _ _
theorem c_Bu_endNode {e : yE} {d : Nat} {x1 : Int} {M : xM} {Q : xM → Prop} (h : C_Bu_endNode_0 e d x1 M Q) : C_Bu_endNode e (d + 1) x1 M Q := h _ _ _ _
def C_Bu_tellNames_0 (e : yE) (d : Nat) (x1 x2 : Int) (M : xM) (Q : xM → Prop) : Prop := ∀ (o3 o4 o5 : Option xV), xGo xft xNf xmt xtr d 15 0 [some (.inr (some 29)), some (.inl x1), some (.inl x2), o3, o4, o5] [] (yS e M) (yV e Q)
def C_Bu_tellNames_8 (e : yE) (d : Nat) (x2 x3 x4 : Int) (M : xM) (Q : xM → Prop) : Prop := ∀ (o1 o5 : Option xV), xGo xft xNf xmt xtr d 15 8 [some (.inr (some 29)), o1, some (.inl x2), some (.inl x3), some (.inl x4), o5] [] (yS e M) (yV e Q)
def C_Bu_tellNames_40 (e : yE) (d : Nat) (x3 x4 x5 : Int) (M : xM) (Q : xM → Prop) : Prop := ∀ (o1 o2 : Option xV), xGo xft xNf xmt xtr d 15 40 [some (.inr (some 29)), o1, o2, some (.inl x3), some (.inl x4), some (.inl x5)] [] (yS e M) (yV e Q)
theorem c_Bu_tellNames_0 {e : yE} {d : Nat} {x1 x2 : Int} {M : xM} {Q : xM → Prop} (hs : CSh e) (h :
    C_Bu_tellNames_8 e d x2 (x1 * (16 : Int)) (0 : Int) M Q) : C_Bu_tellNames_0 e d x1 x2 M Q := by
  intro o3 o4 o5
  refine xGo.in ?_
  exact h _ _
theorem c_Bu_tellNames_8 {e : yE} {d : Nat} {x2 x3 x4 : Int} {M : xM} {Q : xM → Prop} (hs : CSh e) (h :
    (rg x4) ∧ (((16 : Int) ≤ x4 → 
      (C_Bu_tellNames_40 e d x3 x2 (0 : Int) M Q)) ∧ 
    (¬ ((16 : Int) ≤ x4) → 
      (∃ q1 : Nat, (M 29 17 = (q1 : Int) ∧ XSh6 q1 e) ∧ 
      ((0 ≤ (x3 + x4) ∧ (x3 + x4) < 1920) ∧ 
      (∀ M2 : xM, M2 = xup M (q1 + 12) (x3 + x4) (-1 : Int) → 
      (C_Bu_tellNames_8 e d x2 x3 (x4 + 1) M2 Q))))))) : C_Bu_tellNames_8 e d x2 x3 x4 M Q := by
  intro o1 o5
  refine xGo.in ?_
  refine And.intro (⟨h.1, rg_lit (by decide)⟩) (And.intro (fun c => ?_) (fun c => ?_))
  · replace h := h.2.1 c
    exact h _ _
  · replace h := h.2.2 c
    refine And.intro (cob_29 hs) ?_
    obtain ⟨q1, ⟨eq1, hq1⟩, h⟩ := h
    refine xgo_top (xg3 (a := 0) (j := 17) rfl eq1) ?_
    refine And.intro (ob6 hq1) ?_
    refine And.intro (xi_st (a6_12 hq1) (h.1)) ?_
    replace h := h.2
    obtain ⟨M2, hM2⟩ : ∃ z : xM, z = xup M (q1 + 12) (x3 + x4) (-1 : Int) := ⟨_, rfl⟩
    refine xgo_st (e := e) (M := M2) (by subst hM2; rfl) ?_
    replace h := h M2 hM2
    exact h _ _
theorem c_Bu_tellNames_40 {e : yE} {d : Nat} {x3 x4 x5 : Int} {M : xM} {Q : xM → Prop} (hs : CSh e) (h :
    (rg x5) ∧ (((16 : Int) ≤ x5 → 
      (Q M)) ∧ 
    (¬ ((16 : Int) ≤ x5) → 
      ((rg x4) ∧ ((x4 = (-1 : Int) → 
        (Q M)) ∧ 
      (¬ (x4 = (-1 : Int)) → 
        (∃ q1 : Nat, (M 29 17 = (q1 : Int) ∧ XSh6 q1 e) ∧ 
        (∃ q2 nq2 : Nat, (M 34 2 = (q2 : Int) ∧ yA e q2 1 nq2) ∧ 
        ((0 ≤ x4 ∧ x4 < (nq2 : Int)) ∧ 
        (∃ q3 nq3 : Nat, (M 34 1 = (q3 : Int) ∧ yA e q3 1 nq3) ∧ 
        ((0 ≤ x4 ∧ x4 < (nq3 : Int)) ∧ 
        ((0 ≤ (x3 + (M q2 x4)) ∧ (x3 + (M q2 x4)) < 1920) ∧ 
        (∀ M4 : xM, M4 = xup M (q1 + 12) (x3 + (M q2 x4)) (M q3 x4) → 
        (∃ q5 nq5 : Nat, (M4 34 3 = (q5 : Int) ∧ yA e q5 1 nq5) ∧ 
        ((0 ≤ x4 ∧ x4 < (nq5 : Int)) ∧ 
        (C_Bu_tellNames_40 e d x3 (M4 q5 x4) (x5 + 1) M4 Q)))))))))))))))) : C_Bu_tellNames_40 e d x3 x4 x5 M Q := by
  intro o1 o2
  refine xGo.in ?_
  refine And.intro (⟨h.1, rg_lit (by decide)⟩) (And.intro (fun c => ?_) (fun c => ?_))
  · replace h := h.2.1 c
    exact yV_ret (r := .inl 0) h
  · replace h := h.2.2 c
    refine And.intro (⟨h.1, rg_lit (by decide)⟩) (And.intro (fun c => ?_) (fun c => ?_))
    · replace h := h.2.1 c
      exact yV_ret (r := .inl 0) h
    · replace h := h.2.2 c
      refine And.intro (cob_29 hs) ?_
      obtain ⟨q1, ⟨eq1, hq1⟩, h⟩ := h
      refine xgo_top (xg3 (a := 0) (j := 17) rfl eq1) ?_
      refine And.intro (ob6 hq1) ?_
      refine And.intro (cob_29 hs) ?_
      refine And.intro (ob1 (c1_34 hs)) ?_
      obtain ⟨q2, nq2, ⟨eq2, hq2⟩, h⟩ := h
      refine xgo_top (xg3 (a := 1) (j := 2) rfl eq2) ?_
      refine And.intro (xi_ld (hq2) (h.1)) ?_
      replace h := h.2
      refine And.intro (cob_29 hs) ?_
      refine And.intro (ob1 (c1_34 hs)) ?_
      obtain ⟨q3, nq3, ⟨eq3, hq3⟩, h⟩ := h
      refine xgo_top (xg3 (a := 1) (j := 1) rfl eq3) ?_
      refine And.intro (xi_ld (hq3) (h.1)) ?_
      replace h := h.2
      refine And.intro (xi_st (a6_12 hq1) (h.1)) ?_
      replace h := h.2
      obtain ⟨M4, hM4⟩ : ∃ z : xM, z = xup M (q1 + 12) (x3 + (M q2 x4)) (M q3 x4) := ⟨_, rfl⟩
      refine xgo_st (e := e) (M := M4) (by subst hM4; rfl) ?_
      replace h := h M4 hM4
      refine And.intro (cob_29 hs) ?_
      refine And.intro (ob1 (c1_34 hs)) ?_
      obtain ⟨q5, nq5, ⟨eq5, hq5⟩, h⟩ := h
      refine xgo_top (xg3 (a := 1) (j := 3) rfl eq5) ?_
      refine And.intro (xi_ld (hq5) (h.1)) ?_
      replace h := h.2
      exact h _ _
theorem c_Bu_tellNames {e : yE} {d : Nat} {x1 : Int} {x2 : Int} {M : xM} {Q : xM → Prop} (h : C_Bu_tellNames_0 e d x1 x2 M Q) : C_Bu_tellNames e (d + 1) x1 x2 M Q := h _ _ _
def C_Bu_growTest_0 (e : yE) (d : Nat) (x1 x2 : Int) (M : xM) (Q : yE → xM → Prop) : Prop := ∀ (o3 o4 o5 o6 o7 : Option xV), xGo xft xNf xmt xtr d 16 0 [some (.inr (some 29)), some (.inl x1), some (.inl x2), o3, o4, o5, o6, o7] [] (yS e M) (zV Q)
def C_Bu_growTest_51 (e : yE) (d : Nat) (x1 x2 s0 : Int) (M : xM) (Q : yE → xM → Prop) : Prop := ∀ (o3 o4 o5 o6 o7 : Option xV), xGo xft xNf xmt xtr d 16 51 [some (.inr (some 29)), some (.inl x1), some (.inl x2), o3, o4, o5, o6, o7] [.inl s0] (yS e M) (zV Q)
def C_Bu_growTest_71 (e : yE) (d : Nat) (x1 x2 x4 s0 : Int) (M : xM) (Q : yE → xM → Prop) : Prop := ∀ (o3 o5 o6 o7 : Option xV), xGo xft xNf xmt xtr d 16 71 [some (.inr (some 29)), some (.inl x1), some (.inl x2), o3, some (.inl x4), o5, o6, o7] [.inl s0] (yS e M) (zV Q)
def C_Bu_growTest_114 (e : yE) (d : Nat) (x2 x4 x5 x6 x7 : Int) (M : xM) (Q : yE → xM → Prop) : Prop := ∀ (o1 o3 : Option xV), xGo xft xNf xmt xtr d 16 114 [some (.inr (some 29)), o1, some (.inl x2), o3, some (.inl x4), some (.inl x5), some (.inl x6), some (.inl x7)] [] (yS e M) (zV Q)
theorem c_Bu_growTest_0 {e : yE} {d : Nat} {x1 x2 : Int} {M : xM} {Q : yE → xM → Prop} (hs : CSh e) (h :
    ∃ q1 : Nat, (M 29 17 = (q1 : Int) ∧ XSh6 q1 e) ∧ 
    ((rg (M q1 0)) ∧ (((M q1 0) = 0 → 
      (C_Bu_gatherLabels e d x2 M (fun M2 => 
      ∃ q3 : Nat, (M2 29 17 = (q3 : Int) ∧ XSh6 q3 e) ∧ 
      ((0 ≤ x2 ∧ x2 < 360) ∧ 
      ((rg (M2 (q3 + 2) x2)) ∧ (((M2 (q3 + 2) x2) = 0 → 
        (C_Bu_growTest_51 e d x1 x2 (1 : Int) M2 Q)) ∧ 
      (¬ ((M2 (q3 + 2) x2) = 0) → 
        ((0 ≤ (M2 (q3 + 2) x2) ∧ (M2 (q3 + 2) x2) < 8) ∧ 
        ((rg (M2 29 11) ∧ rg (M2 3 (M2 (q3 + 2) x2))) ∧ (((M2 3 (M2 (q3 + 2) x2)) ≤ (M2 29 11) → 
          (C_Bu_growTest_51 e d x1 x2 (0 : Int) M2 Q)) ∧ 
        (¬ ((M2 3 (M2 (q3 + 2) x2)) ≤ (M2 29 11)) → 
          (C_Bu_growTest_51 e d x1 x2 (1 : Int) M2 Q)))))))))))) ∧ 
    (¬ ((M q1 0) = 0) → 
      (Q e M))))) : C_Bu_growTest_0 e d x1 x2 M Q := by
  intro o3 o4 o5 o6 o7
  refine xGo.in ?_
  refine And.intro (cob_29 hs) ?_
  obtain ⟨q1, ⟨eq1, hq1⟩, h⟩ := h
  refine xgo_top (xg3 (a := 0) (j := 17) rfl eq1) ?_
  refine And.intro (ob6 hq1) ?_
  refine And.intro (h.1) (And.intro (fun c => ?_) (fun c => ?_))
  · replace h := h.2.1 c
    refine And.intro ⟨Nat.le_of_ble_eq_true rfl, Nat.le_of_ble_eq_true rfl, cob_29 hs⟩ ?_
    refine yV_use h (fun _ M2 h => ?_)
    refine And.intro (cob_29 hs) ?_
    obtain ⟨q3, ⟨eq3, hq3⟩, h⟩ := h
    refine xgo_top (xg3 (a := 0) (j := 17) rfl eq3) ?_
    refine And.intro (ob6 hq3) ?_
    refine And.intro (xi_ld (a6_2 hq3) (h.1)) ?_
    replace h := h.2
    refine And.intro (h.1) (And.intro (fun c => ?_) (fun c => ?_))
    · replace h := h.2.1 c
      exact h _ _ _ _ _
    · replace h := h.2.2 c
      refine And.intro (cob_29 hs) ?_
      refine And.intro (cob_29 hs) ?_
      refine And.intro (cob_2 hs) ?_
      refine And.intro (xi_ld (caa_3 hs) (h.1)) ?_
      replace h := h.2
      refine And.intro (⟨h.1.1, h.1.2⟩) (And.intro (fun c => ?_) (fun c => ?_))
      · replace h := h.2.1 c
        exact h _ _ _ _ _
      · replace h := h.2.2 c
        exact h _ _ _ _ _
  · replace h := h.2.2 c
    exact zV_ret (r := .inl 0) h
theorem c_Bu_growTest_51 {e : yE} {d : Nat} {x1 x2 s0 : Int} {M : xM} {Q : yE → xM → Prop} (hs : CSh e) (h :
    (rg s0) ∧ ((s0 = 0 → 
      (C_Bu_growTest_71 e d x1 x2 s0 (M 29 11) M Q)) ∧ 
    (¬ (s0 = 0) → 
      (C_Bu_growTest_71 e d x1 x2 s0 ((M 29 11) + (1 : Int)) M Q)))) : C_Bu_growTest_51 e d x1 x2 s0 M Q := by
  intro o3 o4 o5 o6 o7
  refine xGo.in ?_
  refine And.intro (h.1) (And.intro (fun c => ?_) (fun c => ?_))
  · replace h := h.2.1 c
    refine And.intro (cob_29 hs) ?_
    exact h _ _ _ _
  · replace h := h.2.2 c
    refine And.intro (cob_29 hs) ?_
    exact h _ _ _ _
theorem c_Bu_growTest_71 {e : yE} {d : Nat} {x1 x2 x4 s0 : Int} {M : xM} {Q : yE → xM → Prop} (hs : CSh e) (h :
    ∃ q1 : Nat, (M 29 17 = (q1 : Int) ∧ XSh6 q1 e) ∧ 
    (C_Tr_become e d q1 x1 (0 : Int) M (fun M2 => 
    ∃ q3 : Nat, (M2 29 17 = (q3 : Int) ∧ XSh6 q3 e) ∧ 
    ((0 ≤ x1 ∧ x1 < 120) ∧ 
    (∀ M4 : xM, M4 = xup M2 (q3 + 5) x1 x2 → 
    (∃ q5 : Nat, (M4 29 17 = (q5 : Int) ∧ XSh6 q5 e) ∧ 
    (C_Tr_addBranches e d q5 x1 s0 M4 (fun y7 M6 => 
    (rg y7) ∧ ((¬ y7 = (-1 : Int) → 
      (C_Bu_growTest_114 e d x2 x4 s0 y7 (0 : Int) M6 Q)) ∧ 
    (¬ (¬ y7 = (-1 : Int)) → 
      (Q e M6))))))))))) : C_Bu_growTest_71 e d x1 x2 x4 s0 M Q := by
  intro o3 o5 o6 o7
  refine xGo.in ?_
  refine And.intro (cob_29 hs) ?_
  obtain ⟨q1, ⟨eq1, hq1⟩, h⟩ := h
  refine xgo_top (xg3 (a := 0) (j := 17) rfl eq1) ?_
  refine And.intro ⟨Nat.le_of_ble_eq_true rfl, Nat.le_of_ble_eq_true rfl, ob6 hq1⟩ ?_
  refine yV_use h (fun _ M2 h => ?_)
  refine And.intro (cob_29 hs) ?_
  obtain ⟨q3, ⟨eq3, hq3⟩, h⟩ := h
  refine xgo_top (xg3 (a := 0) (j := 17) rfl eq3) ?_
  refine And.intro (ob6 hq3) ?_
  refine And.intro (xi_st (a6_5 hq3) (h.1)) ?_
  replace h := h.2
  obtain ⟨M4, hM4⟩ : ∃ z : xM, z = xup M2 (q3 + 5) x1 x2 := ⟨_, rfl⟩
  refine xgo_st (e := e) (M := M4) (by subst hM4; rfl) ?_
  replace h := h M4 hM4
  refine And.intro (cob_29 hs) ?_
  obtain ⟨q5, ⟨eq5, hq5⟩, h⟩ := h
  refine xgo_top (xg3 (a := 0) (j := 17) rfl eq5) ?_
  refine And.intro ⟨Nat.le_of_ble_eq_true rfl, Nat.le_of_ble_eq_true rfl, ob6 hq5⟩ ?_
  refine yI_use h (fun y7 M6 h => ?_)
  refine And.intro (⟨h.1, rg_lit (by decide)⟩) (And.intro (fun c => ?_) (fun c => ?_))
  · replace h := h.2.1 c
    exact h _ _
  · replace h := h.2.2 c
    exact zV_ret (r := .inl 0) h
theorem c_Bu_growTest_114 {e : yE} {d : Nat} {x2 x4 x5 x6 x7 : Int} {M : xM} {Q : yE → xM → Prop} (hs : CSh e) (h :
    (rg x7 ∧ rg (M 29 11)) ∧ (((M 29 11) ≤ x7 → 
      ((rg x4) ∧ ((x4 = 0 → 
        (C_Bu_putOff e d x6 x5 M (fun M1 => 
        Q e M1))) ∧ 
      (¬ (x4 = 0) → 
        (C_Bu_leastAbsent e d M (fun y3 M2 => 
        C_Bu_growBranch e d (x6 + (M 29 11)) x2 y3 (1 : Int) M2 (fun e5 M4 => 
        yLe e e5 ∧ (C_Bu_putOff e5 d x6 x5 M4 (fun M6 => 
        Q e5 M6))))))))) ∧ 
    (¬ ((M 29 11) ≤ x7) → 
      ((0 ≤ x7 ∧ x7 < 24) ∧ 
      (C_Bu_growBranch e d (x6 + x7) x2 (M 42 x7) (0 : Int) M (fun e8 M7 => 
      yLe e e8 ∧ (C_Bu_growTest_114 e8 d x2 x4 x5 x6 (x7 + 1) M7 Q))))))) : C_Bu_growTest_114 e d x2 x4 x5 x6 x7 M Q := by
  intro o1 o3
  refine xGo.in ?_
  refine And.intro (cob_29 hs) ?_
  refine And.intro (⟨h.1.1, h.1.2⟩) (And.intro (fun c => ?_) (fun c => ?_))
  · replace h := h.2.1 c
    refine And.intro (h.1) (And.intro (fun c => ?_) (fun c => ?_))
    · replace h := h.2.1 c
      refine And.intro ⟨Nat.le_of_ble_eq_true rfl, Nat.le_of_ble_eq_true rfl, cob_29 hs⟩ ?_
      refine yV_use h (fun _ M1 h => ?_)
      exact zV_ret (r := .inl 0) h
    · replace h := h.2.2 c
      refine And.intro (cob_29 hs) ?_
      refine And.intro ⟨Nat.le_of_ble_eq_true rfl, Nat.le_of_ble_eq_true rfl, cob_29 hs⟩ ?_
      refine yI_use h (fun y3 M2 h => ?_)
      refine And.intro ⟨Nat.le_of_ble_eq_true rfl, Nat.le_of_ble_eq_true rfl, cob_29 hs⟩ ?_
      refine zV_use h (fun _ e5 M4 h => ?_)
      obtain ⟨hle, h⟩ := h
      replace hs := hs.le hle
      clear hle
      refine And.intro ⟨Nat.le_of_ble_eq_true rfl, Nat.le_of_ble_eq_true rfl, cob_29 hs⟩ ?_
      refine yV_use h (fun _ M6 h => ?_)
      exact zV_ret (r := .inl 0) h
  · replace h := h.2.2 c
    refine And.intro (cob_29 hs) ?_
    refine And.intro (xi_ld (caa_42 hs) (h.1)) ?_
    replace h := h.2
    refine And.intro ⟨Nat.le_of_ble_eq_true rfl, Nat.le_of_ble_eq_true rfl, cob_29 hs⟩ ?_
    refine zV_use h (fun _ e8 M7 h => ?_)
    obtain ⟨hle, h⟩ := h
    replace hs := hs.le hle
    clear hle
    exact h _ _
theorem c_Bu_growTest {e : yE} {d : Nat} {x1 : Int} {x2 : Int} {M : xM} {Q : yE → xM → Prop} (h : C_Bu_growTest_0 e d x1 x2 M Q) : C_Bu_growTest e (d + 1) x1 x2 M Q := h _ _ _ _ _
def C_Bu_gatherLabels_0 (e : yE) (d : Nat) (x1 : Int) (M : xM) (Q : xM → Prop) : Prop := ∀ (o2 o3 : Option xV), xGo xft xNf xmt xtr d 17 0 [some (.inr (some 29)), some (.inl x1), o2, o3] [] (yS e M) (yV e Q)
def C_Bu_gatherLabels_7 (e : yE) (d : Nat) (x1 x2 : Int) (M : xM) (Q : xM → Prop) : Prop := ∀ (o3 : Option xV), xGo xft xNf xmt xtr d 17 7 [some (.inr (some 29)), some (.inl x1), some (.inl x2), o3] [] (yS e M) (yV e Q)
theorem c_Bu_gatherLabels_0 {e : yE} {d : Nat} {x1 : Int} {M : xM} {Q : xM → Prop} (hs : CSh e) (h :
    ∀ M1 : xM, M1 = xup M 29 11 (0 : Int) → 
    (C_Bu_gatherLabels_7 e d x1 (0 : Int) M1 Q)) : C_Bu_gatherLabels_0 e d x1 M Q := by
  intro o2 o3
  refine xGo.in ?_
  refine And.intro (cob_29 hs) ?_
  obtain ⟨M1, hM1⟩ : ∃ z : xM, z = xup M 29 11 (0 : Int) := ⟨_, rfl⟩
  refine xgo_st (e := e) (M := M1) (by subst hM1; rfl) ?_
  replace h := h M1 hM1
  exact h _
theorem c_Bu_gatherLabels_7 {e : yE} {d : Nat} {x1 x2 : Int} {M : xM} {Q : xM → Prop} (hs : CSh e) (h :
    (rg x2 ∧ rg (M 29 9)) ∧ (((M 29 9) ≤ x2 → 
      (Q M)) ∧ 
    (¬ ((M 29 9) ≤ x2) → 
      ((0 ≤ x2 ∧ x2 < 24) ∧ 
      (C_Bu_patternAt e d (M 41 x2) x1 M (fun y2 M1 => 
      (rg y2) ∧ ((y2 = (-1 : Int) → 
        (C_Bu_gatherLabels_7 e d x1 (x2 + 1) M1 Q)) ∧ 
      (¬ (y2 = (-1 : Int)) → 
        ((0 ≤ y2 ∧ y2 < 300) ∧ 
        (C_Bu_gatherLabel e d (M1 21 y2) M1 (fun M3 => 
        C_Bu_gatherLabels_7 e d x1 (x2 + 1) M3 Q))))))))))) : C_Bu_gatherLabels_7 e d x1 x2 M Q := by
  intro o3
  refine xGo.in ?_
  refine And.intro (cob_29 hs) ?_
  refine And.intro (⟨h.1.1, h.1.2⟩) (And.intro (fun c => ?_) (fun c => ?_))
  · replace h := h.2.1 c
    exact yV_ret (r := .inl 0) h
  · replace h := h.2.2 c
    refine And.intro (cob_29 hs) ?_
    refine And.intro (xi_ld (caa_41 hs) (h.1)) ?_
    replace h := h.2
    refine And.intro ⟨Nat.le_of_ble_eq_true rfl, Nat.le_of_ble_eq_true rfl, cob_29 hs⟩ ?_
    refine yI_use h (fun y2 M1 h => ?_)
    refine And.intro (⟨h.1, rg_lit (by decide)⟩) (And.intro (fun c => ?_) (fun c => ?_))
    · replace h := h.2.1 c
      exact h _
    · replace h := h.2.2 c
      refine And.intro (cob_29 hs) ?_
      refine And.intro (ob5 (c5_18 hs)) ?_
      refine And.intro (xi_ld (caa_21 hs) (h.1)) ?_
      replace h := h.2
      refine And.intro ⟨Nat.le_of_ble_eq_true rfl, Nat.le_of_ble_eq_true rfl, cob_29 hs⟩ ?_
      refine yV_use h (fun _ M3 h => ?_)
      exact h _
theorem c_Bu_gatherLabels {e : yE} {d : Nat} {x1 : Int} {M : xM} {Q : xM → Prop} (h : C_Bu_gatherLabels_0 e d x1 M Q) : C_Bu_gatherLabels e (d + 1) x1 M Q := h _ _
def C_Bu_gatherLabel_0 (e : yE) (d : Nat) (x1 : Int) (M : xM) (Q : xM → Prop) : Prop := ∀ (o2 o3 : Option xV), xGo xft xNf xmt xtr d 18 0 [some (.inr (some 29)), some (.inl x1), o2, o3] [] (yS e M) (yV e Q)
def C_Bu_gatherLabel_2 (e : yE) (d : Nat) (x1 x2 : Int) (M : xM) (Q : xM → Prop) : Prop := ∀ (o3 : Option xV), xGo xft xNf xmt xtr d 18 2 [some (.inr (some 29)), some (.inl x1), some (.inl x2), o3] [] (yS e M) (yV e Q)
def C_Bu_gatherLabel_26 (e : yE) (d : Nat) (x1 x2 : Int) (M : xM) (Q : xM → Prop) : Prop := ∀ (o3 : Option xV), xGo xft xNf xmt xtr d 18 26 [some (.inr (some 29)), some (.inl x1), some (.inl x2), o3] [] (yS e M) (yV e Q)
def C_Bu_gatherLabel_50 (e : yE) (d : Nat) (x1 x2 x3 : Int) (M : xM) (Q : xM → Prop) : Prop := xGo xft xNf xmt xtr d 18 50 [some (.inr (some 29)), some (.inl x1), some (.inl x2), some (.inl x3)] [] (yS e M) (yV e Q)
theorem c_Bu_gatherLabel_0 {e : yE} {d : Nat} {x1 : Int} {M : xM} {Q : xM → Prop} (hs : CSh e) (h :
    C_Bu_gatherLabel_2 e d x1 (0 : Int) M Q) : C_Bu_gatherLabel_0 e d x1 M Q := by
  intro o2 o3
  refine xGo.in ?_
  exact h _
theorem c_Bu_gatherLabel_2 {e : yE} {d : Nat} {x1 x2 : Int} {M : xM} {Q : xM → Prop} (hs : CSh e) (h :
    (rg x2 ∧ rg (M 29 11)) ∧ (((M 29 11) ≤ x2 → 
      (C_Bu_gatherLabel_26 e d x1 x2 M Q)) ∧ 
    (¬ ((M 29 11) ≤ x2) → 
      ((0 ≤ x2 ∧ x2 < 24) ∧ 
      ((rg (M 42 x2) ∧ rg x1) ∧ ((x1 ≤ (M 42 x2) → 
        (C_Bu_gatherLabel_26 e d x1 x2 M Q)) ∧ 
      (¬ (x1 ≤ (M 42 x2)) → 
        (C_Bu_gatherLabel_2 e d x1 (x2 + 1) M Q)))))))) : C_Bu_gatherLabel_2 e d x1 x2 M Q := by
  intro o3
  refine xGo.in ?_
  refine And.intro (cob_29 hs) ?_
  refine And.intro (⟨h.1.1, h.1.2⟩) (And.intro (fun c => ?_) (fun c => ?_))
  · replace h := h.2.1 c
    exact h _
  · replace h := h.2.2 c
    refine And.intro (cob_29 hs) ?_
    refine And.intro (xi_ld (caa_42 hs) (h.1)) ?_
    replace h := h.2
    refine And.intro (⟨h.1.1, h.1.2⟩) (And.intro (fun c => ?_) (fun c => ?_))
    · replace h := h.2.1 c
      exact h _
    · replace h := h.2.2 c
      exact h _
theorem c_Bu_gatherLabel_26 {e : yE} {d : Nat} {x1 x2 : Int} {M : xM} {Q : xM → Prop} (hs : CSh e) (h :
    (rg x2 ∧ rg (M 29 11)) ∧ (((M 29 11) ≤ x2 → 
      (C_Bu_gatherLabel_50 e d x1 x2 (M 29 11) M Q)) ∧ 
    (¬ ((M 29 11) ≤ x2) → 
      ((0 ≤ x2 ∧ x2 < 24) ∧ 
      ((rg (M 42 x2) ∧ rg x1) ∧ ((¬ (M 42 x2) = x1 → 
        (C_Bu_gatherLabel_50 e d x1 x2 (M 29 11) M Q)) ∧ 
      (¬ (¬ (M 42 x2) = x1) → 
        (Q M)))))))) : C_Bu_gatherLabel_26 e d x1 x2 M Q := by
  intro o3
  refine xGo.in ?_
  refine And.intro (cob_29 hs) ?_
  refine And.intro (⟨h.1.1, h.1.2⟩) (And.intro (fun c => ?_) (fun c => ?_))
  · replace h := h.2.1 c
    refine And.intro (cob_29 hs) ?_
    exact h
  · replace h := h.2.2 c
    refine And.intro (cob_29 hs) ?_
    refine And.intro (xi_ld (caa_42 hs) (h.1)) ?_
    replace h := h.2
    refine And.intro (⟨h.1.1, h.1.2⟩) (And.intro (fun c => ?_) (fun c => ?_))
    · replace h := h.2.1 c
      refine And.intro (cob_29 hs) ?_
      exact h
    · replace h := h.2.2 c
      exact yV_ret (r := .inl 0) h
theorem c_Bu_gatherLabel_50 {e : yE} {d : Nat} {x1 x2 x3 : Int} {M : xM} {Q : xM → Prop} (hs : CSh e) (h :
    (rg x3 ∧ rg x2) ∧ ((x3 ≤ x2 → 
      ((0 ≤ x2 ∧ x2 < 24) ∧ 
      (∀ M1 : xM, M1 = xup M 42 x2 x1 → 
      (∀ M2 : xM, M2 = xup M1 29 11 ((M1 29 11) + (1 : Int)) → 
      (Q M2))))) ∧ 
    (¬ (x3 ≤ x2) → 
      ((0 ≤ (x3 - (1 : Int)) ∧ (x3 - (1 : Int)) < 24) ∧ 
      ((0 ≤ x3 ∧ x3 < 24) ∧ 
      (∀ M3 : xM, M3 = xup M 42 x3 (M 42 (x3 - (1 : Int))) → 
      (C_Bu_gatherLabel_50 e d x1 x2 (x3 + (-1 : Int)) M3 Q))))))) : C_Bu_gatherLabel_50 e d x1 x2 x3 M Q := by
  refine xGo.in ?_
  refine And.intro (⟨h.1.1, h.1.2⟩) (And.intro (fun c => ?_) (fun c => ?_))
  · replace h := h.2.1 c
    refine And.intro (cob_29 hs) ?_
    refine And.intro (xi_st (caa_42 hs) (h.1)) ?_
    replace h := h.2
    obtain ⟨M1, hM1⟩ : ∃ z : xM, z = xup M 42 x2 x1 := ⟨_, rfl⟩
    refine xgo_st (e := e) (M := M1) (by subst hM1; rfl) ?_
    replace h := h M1 hM1
    refine And.intro (cob_29 hs) ?_
    refine And.intro (cob_29 hs) ?_
    obtain ⟨M2, hM2⟩ : ∃ z : xM, z = xup M1 29 11 ((M1 29 11) + (1 : Int)) := ⟨_, rfl⟩
    refine xgo_st (e := e) (M := M2) (by subst hM2; rfl) ?_
    replace h := h M2 hM2
    exact yV_ret (r := .inl 0) h
  · replace h := h.2.2 c
    refine And.intro (cob_29 hs) ?_
    refine And.intro (cob_29 hs) ?_
    refine And.intro (xi_ld (caa_42 hs) (h.1)) ?_
    replace h := h.2
    refine And.intro (xi_st (caa_42 hs) (h.1)) ?_
    replace h := h.2
    obtain ⟨M3, hM3⟩ : ∃ z : xM, z = xup M 42 x3 (M 42 (x3 - (1 : Int))) := ⟨_, rfl⟩
    refine xgo_st (e := e) (M := M3) (by subst hM3; rfl) ?_
    replace h := h M3 hM3
    exact h
theorem c_Bu_gatherLabel {e : yE} {d : Nat} {x1 : Int} {M : xM} {Q : xM → Prop} (h : C_Bu_gatherLabel_0 e d x1 M Q) : C_Bu_gatherLabel e (d + 1) x1 M Q := h _ _
def C_Bu_leastAbsent_0 (e : yE) (d : Nat) (M : xM) (Q : Int → xM → Prop) : Prop := ∀ (o1 o2 : Option xV), xGo xft xNf xmt xtr d 19 0 [some (.inr (some 29)), o1, o2] [] (yS e M) (yI e Q)
def C_Bu_leastAbsent_4 (e : yE) (d : Nat) (x1 x2 : Int) (M : xM) (Q : Int → xM → Prop) : Prop := xGo xft xNf xmt xtr d 19 4 [some (.inr (some 29)), some (.inl x1), some (.inl x2)] [] (yS e M) (yI e Q)
theorem c_Bu_leastAbsent_0 {e : yE} {d : Nat} {M : xM} {Q : Int → xM → Prop} (hs : CSh e) (h :
    C_Bu_leastAbsent_4 e d (0 : Int) (0 : Int) M Q) : C_Bu_leastAbsent_0 e d  M Q := by
  intro o1 o2
  refine xGo.in ?_
  exact h
theorem c_Bu_leastAbsent_4 {e : yE} {d : Nat} {x1 x2 : Int} {M : xM} {Q : Int → xM → Prop} (hs : CSh e) (h :
    (rg x2 ∧ rg (M 29 11)) ∧ (((M 29 11) ≤ x2 → 
      (Q x1 M)) ∧ 
    (¬ ((M 29 11) ≤ x2) → 
      ((0 ≤ x2 ∧ x2 < 24) ∧ 
      ((rg (M 42 x2) ∧ rg x1) ∧ ((¬ (M 42 x2) = x1 → 
        (C_Bu_leastAbsent_4 e d x1 (x2 + 1) M Q)) ∧ 
      (¬ (¬ (M 42 x2) = x1) → 
        (C_Bu_leastAbsent_4 e d (x1 + 1) (x2 + 1) M Q)))))))) : C_Bu_leastAbsent_4 e d x1 x2 M Q := by
  refine xGo.in ?_
  refine And.intro (cob_29 hs) ?_
  refine And.intro (⟨h.1.1, h.1.2⟩) (And.intro (fun c => ?_) (fun c => ?_))
  · replace h := h.2.1 c
    exact yI_ret h
  · replace h := h.2.2 c
    refine And.intro (cob_29 hs) ?_
    refine And.intro (xi_ld (caa_42 hs) (h.1)) ?_
    replace h := h.2
    refine And.intro (⟨h.1.1, h.1.2⟩) (And.intro (fun c => ?_) (fun c => ?_))
    · replace h := h.2.1 c
      exact h
    · replace h := h.2.2 c
      exact h
theorem c_Bu_leastAbsent {e : yE} {d : Nat} {M : xM} {Q : Int → xM → Prop} (h : C_Bu_leastAbsent_0 e d  M Q) : C_Bu_leastAbsent e (d + 1)  M Q := h _ _
def C_Bu_growBranch_0 (e : yE) (d : Nat) (x1 x2 x3 x4 : Int) (M : xM) (Q : yE → xM → Prop) : Prop := ∀ (o5 o6 o7 o8 o9 : Option xV), xGo xft xNf xmt xtr d 20 0 [some (.inr (some 29)), some (.inl x1), some (.inl x2), some (.inl x3), some (.inl x4), o5, o6, o7, o8, o9] [] (yS e M) (zV Q)
def C_Bu_growBranch_63 (e : yE) (d : Nat) (x1 x2 x3 x4 x5 x6 x7 : Int) (M : xM) (Q : yE → xM → Prop) : Prop := ∀ (o8 o9 : Option xV), xGo xft xNf xmt xtr d 20 63 [some (.inr (some 29)), some (.inl x1), some (.inl x2), some (.inl x3), some (.inl x4), some (.inl x5), some (.inl x6), some (.inl x7), o8, o9] [] (yS e M) (zV Q)
def C_Bu_growBranch_105 (e : yE) (d : Nat) (x1 x2 x3 x4 x6 x7 : Int) (M : xM) (Q : yE → xM → Prop) : Prop := ∀ (o5 o8 o9 : Option xV), xGo xft xNf xmt xtr d 20 105 [some (.inr (some 29)), some (.inl x1), some (.inl x2), some (.inl x3), some (.inl x4), o5, some (.inl x6), some (.inl x7), o8, o9] [] (yS e M) (zV Q)
def C_Bu_growBranch_177 (e : yE) (d : Nat) (x1 x2 x3 x4 x6 x7 x8 x9 : Int) (M : xM) (Q : yE → xM → Prop) : Prop := ∀ (o5 : Option xV), xGo xft xNf xmt xtr d 20 177 [some (.inr (some 29)), some (.inl x1), some (.inl x2), some (.inl x3), some (.inl x4), o5, some (.inl x6), some (.inl x7), some (.inl x8), some (.inl x9)] [] (yS e M) (zV Q)
theorem c_Bu_growBranch_0 {e : yE} {d : Nat} {x1 x2 x3 x4 : Int} {M : xM} {Q : yE → xM → Prop} (hs : CSh e) (h :
    ∃ q1 : Nat, (M 29 17 = (q1 : Int) ∧ XSh6 q1 e) ∧ 
    ((0 ≤ x1 ∧ x1 < 120) ∧ 
    (∀ M2 : xM, M2 = xup M (q1 + 9) x1 x3 → 
    (∃ q3 : Nat, (M2 29 17 = (q3 : Int) ∧ XSh6 q3 e) ∧ 
    (((0 ≤ x1 ∧ x1 < 120) ∧ (x4 = 0 ∨ x4 = 1)) ∧ 
    (∀ M4 : xM, M4 = xup M2 (q3 + 10) x1 x4 → 
    (∃ q5 : Nat, (M4 29 17 = (q5 : Int) ∧ XSh6 q5 e) ∧ 
    (∃ q6 : Nat, (M4 29 17 = (q6 : Int) ∧ XSh6 q6 e) ∧ 
    ((0 ≤ x1 ∧ x1 < 120) ∧ 
    (∀ M7 : xM, M7 = xup M4 (q5 + 11) x1 (M4 q6 4) → 
    (∃ q8 : Nat, (M7 29 17 = (q8 : Int) ∧ XSh6 q8 e) ∧ 
    ((0 ≤ x2 ∧ x2 < 360) ∧ 
    (C_Ty_partsOf e d (M7 (q8 + 2) x2) x3 M7 (fun y10 M9 => 
    C_Bu_growBranch_63 e d x1 x2 x3 x4 (M7 (q8 + 2) x2) y10 (0 : Int) M9 Q)))))))))))))) : C_Bu_growBranch_0 e d x1 x2 x3 x4 M Q := by
  intro o5 o6 o7 o8 o9
  refine xGo.in ?_
  refine And.intro (cob_29 hs) ?_
  obtain ⟨q1, ⟨eq1, hq1⟩, h⟩ := h
  refine xgo_top (xg3 (a := 0) (j := 17) rfl eq1) ?_
  refine And.intro (ob6 hq1) ?_
  refine And.intro (xi_st (a6_9 hq1) (h.1)) ?_
  replace h := h.2
  obtain ⟨M2, hM2⟩ : ∃ z : xM, z = xup M (q1 + 9) x1 x3 := ⟨_, rfl⟩
  refine xgo_st (e := e) (M := M2) (by subst hM2; rfl) ?_
  replace h := h M2 hM2
  refine And.intro (cob_29 hs) ?_
  obtain ⟨q3, ⟨eq3, hq3⟩, h⟩ := h
  refine xgo_top (xg3 (a := 0) (j := 17) rfl eq3) ?_
  refine And.intro (ob6 hq3) ?_
  refine And.intro (xi_stv (a6_10 hq3) (h.1.1) (h.1.2)) ?_
  replace h := h.2
  obtain ⟨M4, hM4⟩ : ∃ z : xM, z = xup M2 (q3 + 10) x1 x4 := ⟨_, rfl⟩
  refine xgo_st (e := e) (M := M4) (by subst hM4; rfl) ?_
  replace h := h M4 hM4
  refine And.intro (cob_29 hs) ?_
  obtain ⟨q5, ⟨eq5, hq5⟩, h⟩ := h
  refine xgo_top (xg3 (a := 0) (j := 17) rfl eq5) ?_
  refine And.intro (ob6 hq5) ?_
  refine And.intro (cob_29 hs) ?_
  obtain ⟨q6, ⟨eq6, hq6⟩, h⟩ := h
  refine xgo_top (xg3 (a := 0) (j := 17) rfl eq6) ?_
  refine And.intro (ob6 hq6) ?_
  refine And.intro (xi_st (a6_11 hq5) (h.1)) ?_
  replace h := h.2
  obtain ⟨M7, hM7⟩ : ∃ z : xM, z = xup M4 (q5 + 11) x1 (M4 q6 4) := ⟨_, rfl⟩
  refine xgo_st (e := e) (M := M7) (by subst hM7; rfl) ?_
  replace h := h M7 hM7
  refine And.intro (cob_29 hs) ?_
  obtain ⟨q8, ⟨eq8, hq8⟩, h⟩ := h
  refine xgo_top (xg3 (a := 0) (j := 17) rfl eq8) ?_
  refine And.intro (ob6 hq8) ?_
  refine And.intro (xi_ld (a6_2 hq8) (h.1)) ?_
  replace h := h.2
  refine And.intro (cob_29 hs) ?_
  refine And.intro ⟨Nat.le_of_ble_eq_true rfl, Nat.le_of_ble_eq_true rfl, cob_2 hs⟩ ?_
  refine yI_use h (fun y10 M9 h => ?_)
  exact h _ _
theorem c_Bu_growBranch_63 {e : yE} {d : Nat} {x1 x2 x3 x4 x5 x6 x7 : Int} {M : xM} {Q : yE → xM → Prop} (hs : CSh e) (h :
    (rg x7 ∧ rg x6) ∧ ((x6 ≤ x7 → 
      ((0 ≤ x1 ∧ x1 < 120) ∧ 
      (∀ M1 : xM, M1 = xup M 40 x1 (0 : Int) → 
      (C_Bu_growBranch_105 e d x1 x2 x3 x4 x6 (0 : Int) M1 Q)))) ∧ 
    (¬ (x6 ≤ x7) → 
      (∃ q2 : Nat, (M 29 17 = (q2 : Int) ∧ XSh6 q2 e) ∧ 
      (C_Ty_partTypeOf e d x5 x3 x7 M (fun y4 M3 => 
      C_Tr_addPlace e d q2 y4 M3 (fun M5 => 
      C_Bu_growBranch_63 e d x1 x2 x3 x4 x5 x6 (x7 + 1) M5 Q))))))) : C_Bu_growBranch_63 e d x1 x2 x3 x4 x5 x6 x7 M Q := by
  intro o8 o9
  refine xGo.in ?_
  refine And.intro (⟨h.1.1, h.1.2⟩) (And.intro (fun c => ?_) (fun c => ?_))
  · replace h := h.2.1 c
    refine And.intro (cob_29 hs) ?_
    refine And.intro (xi_st (caa_40 hs) (h.1)) ?_
    replace h := h.2
    obtain ⟨M1, hM1⟩ : ∃ z : xM, z = xup M 40 x1 (0 : Int) := ⟨_, rfl⟩
    refine xgo_st (e := e) (M := M1) (by subst hM1; rfl) ?_
    replace h := h M1 hM1
    exact h _ _ _
  · replace h := h.2.2 c
    refine And.intro (cob_29 hs) ?_
    obtain ⟨q2, ⟨eq2, hq2⟩, h⟩ := h
    refine xgo_top (xg3 (a := 0) (j := 17) rfl eq2) ?_
    refine And.intro (cob_29 hs) ?_
    refine And.intro ⟨Nat.le_of_ble_eq_true rfl, Nat.le_of_ble_eq_true rfl, cob_2 hs⟩ ?_
    refine yI_use h (fun y4 M3 h => ?_)
    refine And.intro ⟨Nat.le_of_ble_eq_true rfl, Nat.le_of_ble_eq_true rfl, ob6 hq2⟩ ?_
    refine yV_use h (fun _ M5 h => ?_)
    exact h _ _
theorem c_Bu_growBranch_105 {e : yE} {d : Nat} {x1 x2 x3 x4 x6 x7 : Int} {M : xM} {Q : yE → xM → Prop} (hs : CSh e) (h :
    (rg x7 ∧ rg (M 29 9)) ∧ (((M 29 9) ≤ x7 → 
      (Q e M)) ∧ 
    (¬ ((M 29 9) ≤ x7) → 
      ((0 ≤ x7 ∧ x7 < 24) ∧ 
      (C_Bu_patternAt e d (M 41 x7) x2 M (fun y2 M1 => 
      (rg y2) ∧ ((¬ y2 = (-1 : Int) → 
        ((rg x4) ∧ ((¬ x4 = 0 → 
          (C_Bu_growBranch_105 e d x1 x2 x3 x4 x6 (x7 + 1) M1 Q)) ∧ 
        (¬ (¬ x4 = 0) → 
          ((0 ≤ y2 ∧ y2 < 300) ∧ 
          ((rg (M1 21 y2) ∧ rg x3) ∧ ((¬ (M1 21 y2) = x3 → 
            (C_Bu_growBranch_105 e d x1 x2 x3 x4 x6 (x7 + 1) M1 Q)) ∧ 
          (¬ (¬ (M1 21 y2) = x3) → 
            (∀ M3 : xM, M3 = xup M1 29 13 x6 → 
            (C_Bu_growBranch_177 e d x1 x2 x3 x4 x6 x7 y2 (0 : Int) M3 Q)))))))))) ∧ 
      (¬ (¬ y2 = (-1 : Int)) → 
        ((0 ≤ x7 ∧ x7 < 24) ∧ 
        (C_Bu_keep e d x1 (M1 41 x7) M1 (fun M4 => 
        C_Bu_growBranch_105 e d x1 x2 x3 x4 x6 (x7 + 1) M4 Q))))))))))) : C_Bu_growBranch_105 e d x1 x2 x3 x4 x6 x7 M Q := by
  intro o5 o8 o9
  refine xGo.in ?_
  refine And.intro (cob_29 hs) ?_
  refine And.intro (⟨h.1.1, h.1.2⟩) (And.intro (fun c => ?_) (fun c => ?_))
  · replace h := h.2.1 c
    exact zV_ret (r := .inl 0) h
  · replace h := h.2.2 c
    refine And.intro (cob_29 hs) ?_
    refine And.intro (xi_ld (caa_41 hs) (h.1)) ?_
    replace h := h.2
    refine And.intro ⟨Nat.le_of_ble_eq_true rfl, Nat.le_of_ble_eq_true rfl, cob_29 hs⟩ ?_
    refine yI_use h (fun y2 M1 h => ?_)
    refine And.intro (⟨h.1, rg_lit (by decide)⟩) (And.intro (fun c => ?_) (fun c => ?_))
    · replace h := h.2.1 c
      refine And.intro (h.1) (And.intro (fun c => ?_) (fun c => ?_))
      · replace h := h.2.1 c
        exact h _ _ _
      · replace h := h.2.2 c
        refine And.intro (cob_29 hs) ?_
        refine And.intro (ob5 (c5_18 hs)) ?_
        refine And.intro (xi_ld (caa_21 hs) (h.1)) ?_
        replace h := h.2
        refine And.intro (⟨h.1.1, h.1.2⟩) (And.intro (fun c => ?_) (fun c => ?_))
        · replace h := h.2.1 c
          exact h _ _ _
        · replace h := h.2.2 c
          refine And.intro (cob_29 hs) ?_
          obtain ⟨M3, hM3⟩ : ∃ z : xM, z = xup M1 29 13 x6 := ⟨_, rfl⟩
          refine xgo_st (e := e) (M := M3) (by subst hM3; rfl) ?_
          replace h := h M3 hM3
          exact h _
    · replace h := h.2.2 c
      refine And.intro (cob_29 hs) ?_
      refine And.intro (xi_ld (caa_41 hs) (h.1)) ?_
      replace h := h.2
      refine And.intro ⟨Nat.le_of_ble_eq_true rfl, Nat.le_of_ble_eq_true rfl, cob_29 hs⟩ ?_
      refine yV_use h (fun _ M4 h => ?_)
      exact h _ _ _
theorem c_Bu_growBranch_177 {e : yE} {d : Nat} {x1 x2 x3 x4 x6 x7 x8 x9 : Int} {M : xM} {Q : yE → xM → Prop} (hs : CSh e) (h :
    (rg x9 ∧ rg x6) ∧ ((x6 ≤ x9 → 
      ((0 ≤ x7 ∧ x7 < 24) ∧ 
      (∃ q1 : Nat, (M 29 17 = (q1 : Int) ∧ XSh6 q1 e) ∧ 
      ((0 ≤ x1 ∧ x1 < 120) ∧ 
      (C_Bu_putParts e d (M 41 x7) x2 (M (q1 + 11) x1) M (fun y4 e3 M2 => 
      yLe e e3 ∧ (C_Bu_keep e3 d x1 y4 M2 (fun M5 => 
      C_Bu_growBranch_105 e3 d x1 x2 x3 x4 x6 (x7 + 1) M5 Q)))))))) ∧ 
    (¬ (x6 ≤ x9) → 
      (C_Tm_partOf e d 18 x8 x9 M (fun y7 M6 => 
      (0 ≤ x9 ∧ x9 < 3) ∧ 
      (∀ M8 : xM, M8 = xup M6 43 x9 y7 → 
      (C_Bu_growBranch_177 e d x1 x2 x3 x4 x6 x7 x8 (x9 + 1) M8 Q))))))) : C_Bu_growBranch_177 e d x1 x2 x3 x4 x6 x7 x8 x9 M Q := by
  intro o5
  refine xGo.in ?_
  refine And.intro (⟨h.1.1, h.1.2⟩) (And.intro (fun c => ?_) (fun c => ?_))
  · replace h := h.2.1 c
    refine And.intro (cob_29 hs) ?_
    refine And.intro (xi_ld (caa_41 hs) (h.1)) ?_
    replace h := h.2
    refine And.intro (cob_29 hs) ?_
    obtain ⟨q1, ⟨eq1, hq1⟩, h⟩ := h
    refine xgo_top (xg3 (a := 0) (j := 17) rfl eq1) ?_
    refine And.intro (ob6 hq1) ?_
    refine And.intro (xi_ld (a6_11 hq1) (h.1)) ?_
    replace h := h.2
    refine And.intro ⟨Nat.le_of_ble_eq_true rfl, Nat.le_of_ble_eq_true rfl, cob_29 hs⟩ ?_
    refine zI_use h (fun y4 e3 M2 h => ?_)
    obtain ⟨hle, h⟩ := h
    replace hs := hs.le hle
    replace hq1 := hq1.le hle
    clear hle
    refine And.intro ⟨Nat.le_of_ble_eq_true rfl, Nat.le_of_ble_eq_true rfl, cob_29 hs⟩ ?_
    refine yV_use h (fun _ M5 h => ?_)
    exact h _ _ _
  · replace h := h.2.2 c
    refine And.intro (cob_29 hs) ?_
    refine And.intro (cob_29 hs) ?_
    refine And.intro ⟨Nat.le_of_ble_eq_true rfl, Nat.le_of_ble_eq_true rfl, ob5 (c5_18 hs)⟩ ?_
    refine yI_use h (fun y7 M6 h => ?_)
    refine And.intro (xi_st (caa_43 hs) (h.1)) ?_
    replace h := h.2
    obtain ⟨M8, hM8⟩ : ∃ z : xM, z = xup M6 43 x9 y7 := ⟨_, rfl⟩
    refine xgo_st (e := e) (M := M8) (by subst hM8; rfl) ?_
    replace h := h M8 hM8
    exact h _
theorem c_Bu_growBranch {e : yE} {d : Nat} {x1 : Int} {x2 : Int} {x3 : Int} {x4 : Int} {M : xM} {Q : yE → xM → Prop} (h : C_Bu_growBranch_0 e d x1 x2 x3 x4 M Q) : C_Bu_growBranch e (d + 1) x1 x2 x3 x4 M Q := h _ _ _ _ _
def C_Ju_rowFor_0 (e : yE) (d : Nat) (a1 : Nat) (a2 : Nat) (n2 : Nat) (M : xM) (Q : Int → xM → Prop) : Prop := ∀ (o3 : Option xV), xGo xft xNf xmt xtr d 24 0 [some (.inr (some 51)), some (.inr (some a1)), some (.inr (some a2)), o3] [] (yS e M) (yI e Q)
def C_Ju_rowFor_2 (e : yE) (d : Nat) (a1 : Nat) (a2 : Nat) (n2 : Nat) (x3 : Int) (M : xM) (Q : Int → xM → Prop) : Prop := xGo xft xNf xmt xtr d 24 2 [some (.inr (some 51)), some (.inr (some a1)), some (.inr (some a2)), some (.inl x3)] [] (yS e M) (yI e Q)
theorem c_Ju_rowFor_0 {e : yE} {d : Nat} {a1 : Nat} {a2 : Nat} {n2 : Nat} {M : xM} {Q : Int → xM → Prop} (hs : CSh e) (h1 : XSh3 a1 e) (h2 : yA e a2 1 n2) (h :
    C_Ju_rowFor_2 e d a1 a2 n2 (0 : Int) M Q) : C_Ju_rowFor_0 e d a1 a2 n2 M Q := by
  intro o3
  refine xGo.in ?_
  exact h
theorem c_Ju_rowFor_2 {e : yE} {d : Nat} {a1 : Nat} {a2 : Nat} {n2 : Nat} {x3 : Int} {M : xM} {Q : Int → xM → Prop} (hs : CSh e) (h1 : XSh3 a1 e) (h2 : yA e a2 1 n2) (h :
    (rg x3 ∧ rg (M a1 2)) ∧ (((M a1 2) ≤ x3 → 
      (Q (-1 : Int) M)) ∧ 
    (¬ ((M a1 2) ≤ x3) → 
      (C_Ju_allFit e d a1 x3 a2 n2 M (fun y2 M1 => 
      (rg y2) ∧ ((y2 = 0 → 
        (C_Ju_rowFor_2 e d a1 a2 n2 (x3 + 1) M1 Q)) ∧ 
      (¬ (y2 = 0) → 
        (C_Ma_isGuarded e d a1 x3 M1 (fun y4 M3 => 
        (rg y4) ∧ ((y4 = 0 → 
          (Q x3 M3)) ∧ 
        (¬ (y4 = 0) → 
          (C_Ju_holds e d a1 x3 M3 (fun y6 M5 => 
          (rg y6) ∧ ((y6 = 0 → 
            (C_Ju_rowFor_2 e d a1 a2 n2 (x3 + 1) M5 Q)) ∧ 
          (¬ (y6 = 0) → 
            (Q x3 M5)))))))))))))))) : C_Ju_rowFor_2 e d a1 a2 n2 x3 M Q := by
  refine xGo.in ?_
  refine And.intro (ob3 h1) ?_
  refine And.intro (⟨h.1.1, h.1.2⟩) (And.intro (fun c => ?_) (fun c => ?_))
  · replace h := h.2.1 c
    exact yI_ret h
  · replace h := h.2.2 c
    refine And.intro ⟨Nat.le_of_ble_eq_true rfl, Nat.le_of_ble_eq_true rfl, cob_51 hs⟩ ?_
    refine yI_use h (fun y2 M1 h => ?_)
    refine And.intro (h.1) (And.intro (fun c => ?_) (fun c => ?_))
    · replace h := h.2.1 c
      exact h
    · replace h := h.2.2 c
      refine And.intro ⟨Nat.le_of_ble_eq_true rfl, Nat.le_of_ble_eq_true rfl, ob3 h1⟩ ?_
      refine yI_use h (fun y4 M3 h => ?_)
      refine And.intro (h.1) (And.intro (fun c => ?_) (fun c => ?_))
      · replace h := h.2.1 c
        exact yI_ret h
      · replace h := h.2.2 c
        refine And.intro ⟨Nat.le_of_ble_eq_true rfl, Nat.le_of_ble_eq_true rfl, cob_51 hs⟩ ?_
        refine yI_use h (fun y6 M5 h => ?_)
        refine And.intro (h.1) (And.intro (fun c => ?_) (fun c => ?_))
        · replace h := h.2.1 c
          exact h
        · replace h := h.2.2 c
          exact yI_ret h
theorem c_Ju_rowFor {e : yE} {d : Nat} {a1 : Nat} {a2 : Nat} {n2 : Nat} {M : xM} {Q : Int → xM → Prop} (h : C_Ju_rowFor_0 e d a1 a2 n2 M Q) : C_Ju_rowFor e (d + 1) a1 a2 n2 M Q := h _
def C_Ju_allFit_0 (e : yE) (d : Nat) (a1 : Nat) (a3 : Nat) (n3 : Nat) (x2 : Int) (M : xM) (Q : Int → xM → Prop) : Prop := ∀ (o4 : Option xV), xGo xft xNf xmt xtr d 25 0 [some (.inr (some 51)), some (.inr (some a1)), some (.inl x2), some (.inr (some a3)), o4] [] (yS e M) (yI e Q)
def C_Ju_allFit_3 (e : yE) (d : Nat) (a1 : Nat) (a3 : Nat) (n3 : Nat) (x2 x4 : Int) (M : xM) (Q : Int → xM → Prop) : Prop := xGo xft xNf xmt xtr d 25 3 [some (.inr (some 51)), some (.inr (some a1)), some (.inl x2), some (.inr (some a3)), some (.inl x4)] [] (yS e M) (yI e Q)
theorem c_Ju_allFit_0 {e : yE} {d : Nat} {a1 : Nat} {a3 : Nat} {n3 : Nat} {x2 : Int} {M : xM} {Q : Int → xM → Prop} (hs : CSh e) (h1 : XSh3 a1 e) (h3 : yA e a3 1 n3) (h :
    C_Ju_allFit_3 e d a1 a3 n3 x2 (0 : Int) M Q) : C_Ju_allFit_0 e d a1 a3 n3 x2 M Q := by
  intro o4
  refine xGo.in ?_
  exact h
theorem c_Ju_allFit_3 {e : yE} {d : Nat} {a1 : Nat} {a3 : Nat} {n3 : Nat} {x2 x4 : Int} {M : xM} {Q : Int → xM → Prop} (hs : CSh e) (h1 : XSh3 a1 e) (h3 : yA e a3 1 n3) (h :
    (rg x4 ∧ rg (M a1 0)) ∧ (((M a1 0) ≤ x4 → 
      (Q (1 : Int) M)) ∧ 
    (¬ ((M a1 0) ≤ x4) → 
      (C_Ma_patternOf e d a1 x2 x4 M (fun y2 M1 => 
      (0 ≤ x4 ∧ x4 < (n3 : Int)) ∧ 
      (C_Ju_fits e d y2 (M1 a3 x4) (0 : Int) M1 (fun y4 M3 => 
      (rg y4) ∧ ((¬ y4 = 0 → 
        (C_Ju_allFit_3 e d a1 a3 n3 x2 (x4 + 1) M3 Q)) ∧ 
      (¬ (¬ y4 = 0) → 
        (Q (0 : Int) M3)))))))))) : C_Ju_allFit_3 e d a1 a3 n3 x2 x4 M Q := by
  refine xGo.in ?_
  refine And.intro (ob3 h1) ?_
  refine And.intro (⟨h.1.1, h.1.2⟩) (And.intro (fun c => ?_) (fun c => ?_))
  · replace h := h.2.1 c
    exact And.intro (by decide) (yI_ret h)
  · replace h := h.2.2 c
    refine And.intro ⟨Nat.le_of_ble_eq_true rfl, Nat.le_of_ble_eq_true rfl, ob3 h1⟩ ?_
    refine yI_use h (fun y2 M1 h => ?_)
    refine And.intro (xi_ld (h3) (h.1)) ?_
    replace h := h.2
    refine And.intro ⟨Nat.le_of_ble_eq_true rfl, Nat.le_of_ble_eq_true rfl, cob_51 hs⟩ ?_
    refine yI_use h (fun y4 M3 h => ?_)
    refine And.intro (h.1) (And.intro (fun c => ?_) (fun c => ?_))
    · replace h := h.2.1 c
      exact h
    · replace h := h.2.2 c
      exact And.intro (by decide) (yI_ret h)
theorem c_Ju_allFit {e : yE} {d : Nat} {a1 : Nat} {x2 : Int} {a3 : Nat} {n3 : Nat} {M : xM} {Q : Int → xM → Prop} (h : C_Ju_allFit_0 e d a1 a3 n3 x2 M Q) : C_Ju_allFit e (d + 1) a1 x2 a3 n3 M Q := h _
def C_Ju_holds_0 (e : yE) (d : Nat) (a1 : Nat) (x2 : Int) (M : xM) (Q : Int → xM → Prop) : Prop := ∀ (o3 o4 : Option xV), xGo xft xNf xmt xtr d 26 0 [some (.inr (some 51)), some (.inr (some a1)), some (.inl x2), o3, o4] [] (yS e M) (yI e Q)
theorem c_Ju_holds_0 {e : yE} {d : Nat} {a1 : Nat} {x2 : Int} {M : xM} {Q : Int → xM → Prop} (hs : CSh e) (h1 : XSh3 a1 e) (h :
    (0 ≤ x2 ∧ x2 < 12) ∧ 
    ((0 ≤ (M (a1 + 3) x2) ∧ (M (a1 + 3) x2) < 16) ∧ 
    ((0 ≤ x2 ∧ x2 < 12) ∧ 
    ((0 ≤ (M (a1 + 4) x2) ∧ (M (a1 + 4) x2) < 16) ∧ 
    ((0 ≤ (M 52 (M (a1 + 3) x2)) ∧ (M 52 (M (a1 + 3) x2)) < 300) ∧ 
    ((0 ≤ (M 52 (M (a1 + 4) x2)) ∧ (M 52 (M (a1 + 4) x2)) < 300) ∧ 
    ((rg (M 11 (M 52 (M (a1 + 3) x2))) ∧ rg (M 11 (M 52 (M (a1 + 4) x2)))) ∧ (((M 11 (M 52 (M (a1 + 4) x2))) ≤ (M 11 (M 52 (M (a1 + 3) x2))) → 
      (Q (0 : Int) M)) ∧ 
    (¬ ((M 11 (M 52 (M (a1 + 4) x2))) ≤ (M 11 (M 52 (M (a1 + 3) x2)))) → 
      (Q (1 : Int) M)))))))))) : C_Ju_holds_0 e d a1 x2 M Q := by
  intro o3 o4
  refine xGo.in ?_
  refine And.intro (cob_51 hs) ?_
  refine And.intro (ob3 h1) ?_
  refine And.intro (xi_ld (a3_3 h1) (h.1)) ?_
  replace h := h.2
  refine And.intro (xi_ld (caa_52 hs) (h.1)) ?_
  replace h := h.2
  refine And.intro (cob_51 hs) ?_
  refine And.intro (ob3 h1) ?_
  refine And.intro (xi_ld (a3_4 h1) (h.1)) ?_
  replace h := h.2
  refine And.intro (xi_ld (caa_52 hs) (h.1)) ?_
  replace h := h.2
  refine And.intro (cob_51 hs) ?_
  refine And.intro (ob5 (c5_8 hs)) ?_
  refine And.intro (xi_ld (caa_11 hs) (h.1)) ?_
  replace h := h.2
  refine And.intro (cob_51 hs) ?_
  refine And.intro (ob5 (c5_8 hs)) ?_
  refine And.intro (xi_ld (caa_11 hs) (h.1)) ?_
  replace h := h.2
  refine And.intro (⟨h.1.1, h.1.2⟩) (And.intro (fun c => ?_) (fun c => ?_))
  · replace h := h.2.1 c
    exact And.intro (by decide) (yI_ret h)
  · replace h := h.2.2 c
    exact And.intro (by decide) (yI_ret h)
theorem c_Ju_holds {e : yE} {d : Nat} {a1 : Nat} {x2 : Int} {M : xM} {Q : Int → xM → Prop} (h : C_Ju_holds_0 e d a1 x2 M Q) : C_Ju_holds e (d + 1) a1 x2 M Q := h _ _
def C_Ju_fits_0 (e : yE) (d : Nat) (x1 x2 x3 : Int) (M : xM) (Q : Int → xM → Prop) : Prop := xGo xft xNf xmt xtr d 27 0 [some (.inr (some 51)), some (.inl x1), some (.inl x2), some (.inl x3)] [] (yS e M) (yI e Q)
def C_Ju_fits_56 (e : yE) (d : Nat) (M : xM) (Q : Int → xM → Prop) : Prop := ∀ (o1 o2 o3 : Option xV), xGo xft xNf xmt xtr d 27 56 [some (.inr (some 51)), o1, o2, o3] [] (yS e M) (yI e Q)
def C_Ju_fits_58 (e : yE) (d : Nat) (x1 x2 : Int) (M : xM) (Q : Int → xM → Prop) : Prop := ∀ (o3 : Option xV), xGo xft xNf xmt xtr d 27 58 [some (.inr (some 51)), some (.inl x1), some (.inl x2), o3] [] (yS e M) (yI e Q)
def C_Ju_fits_75 (e : yE) (d : Nat) (x1 x2 x3 : Int) (M : xM) (Q : Int → xM → Prop) : Prop := xGo xft xNf xmt xtr d 27 75 [some (.inr (some 51)), some (.inl x1), some (.inl x2), some (.inl x3)] [] (yS e M) (yI e Q)
def C_Ju_fits_108 (e : yE) (d : Nat) (x1 x2 x3 : Int) (M : xM) (Q : Int → xM → Prop) : Prop := xGo xft xNf xmt xtr d 27 108 [some (.inr (some 51)), some (.inl x1), some (.inl x2), some (.inl x3)] [] (yS e M) (yI e Q)
def C_Ju_fits_154 (e : yE) (d : Nat) (x1 x2 : Int) (M : xM) (Q : Int → xM → Prop) : Prop := ∀ (o3 : Option xV), xGo xft xNf xmt xtr d 27 154 [some (.inr (some 51)), some (.inl x1), some (.inl x2), o3] [] (yS e M) (yI e Q)
def C_Ju_fits_181 (e : yE) (d : Nat) (x1 x2 x3 : Int) (M : xM) (Q : Int → xM → Prop) : Prop := xGo xft xNf xmt xtr d 27 181 [some (.inr (some 51)), some (.inl x1), some (.inl x2), some (.inl x3)] [] (yS e M) (yI e Q)
theorem c_Ju_fits_0 {e : yE} {d : Nat} {x1 x2 x3 : Int} {M : xM} {Q : Int → xM → Prop} (hs : CSh e) (h :
    (rg x3) ∧ ((x3 ≤ (40 : Int) → 
      ((0 ≤ x1 ∧ x1 < 300) ∧ 
      ((rg (M 19 x1)) ∧ (((M 19 x1) < 0 ∨ 5 < (M 19 x1)) → 
      (C_Ju_fits_181 e d x1 x2 x3 M Q)) ∧ 
      ((M 19 x1) = 0 → 
      (C_Ju_fits_56 e d M Q)) ∧ 
      ((M 19 x1) = 1 → 
      (C_Ju_fits_58 e d x1 x2 M Q)) ∧ 
      ((M 19 x1) = 2 → 
      (C_Ju_fits_75 e d x1 x2 x3 M Q)) ∧ 
      ((M 19 x1) = 3 → 
      (C_Ju_fits_154 e d x1 x2 M Q)) ∧ 
      ((M 19 x1) = 4 → 
      (C_Ju_fits_181 e d x1 x2 x3 M Q)) ∧ 
      ((M 19 x1) = 5 → 
      (C_Ju_fits_108 e d x1 x2 x3 M Q))))) ∧ 
    (¬ (x3 ≤ (40 : Int)) → 
      (Q (0 : Int) M)))) : C_Ju_fits_0 e d x1 x2 x3 M Q := by
  refine xGo.in ?_
  refine And.intro (⟨h.1, rg_lit (by decide)⟩) (And.intro (fun c => ?_) (fun c => ?_))
  · replace h := h.2.1 c
    refine And.intro (cob_51 hs) ?_
    refine And.intro (ob5 (c5_18 hs)) ?_
    refine And.intro (xi_ld (caa_19 hs) (h.1)) ?_
    replace h := h.2
    obtain ⟨hr, h0, h1, h2, h3, h4, h5, h6⟩ := h
    refine And.intro hr (And.intro (fun c => ?_) (fun c => ?_))
    · have h := h0 c
      exact h
    · have c2 : ¬ ((M 19 x1) < 0 ∨ 5 < (M 19 x1)) := c
      rcases (show (M 19 x1) = 0 ∨ (M 19 x1) = 1 ∨ (M 19 x1) = 2 ∨ (M 19 x1) = 3 ∨ (M 19 x1) = 4 ∨ (M 19 x1) = 5 by omega) with hv | hv | hv | hv | hv | hv
      · have h := h1 hv
        show xGo xft xNf xmt xtr d 27 ((((17 : Nat) : Int) + (#[39, 41, 58, 137, 164, 91] : Array Int).getD ((M 19 x1) - 0).toNat 0).toNat) _ _ _ _
        rw [hv]
        exact h _ _ _
      · have h := h2 hv
        show xGo xft xNf xmt xtr d 27 ((((17 : Nat) : Int) + (#[39, 41, 58, 137, 164, 91] : Array Int).getD ((M 19 x1) - 0).toNat 0).toNat) _ _ _ _
        rw [hv]
        exact h _
      · have h := h3 hv
        show xGo xft xNf xmt xtr d 27 ((((17 : Nat) : Int) + (#[39, 41, 58, 137, 164, 91] : Array Int).getD ((M 19 x1) - 0).toNat 0).toNat) _ _ _ _
        rw [hv]
        exact h
      · have h := h4 hv
        show xGo xft xNf xmt xtr d 27 ((((17 : Nat) : Int) + (#[39, 41, 58, 137, 164, 91] : Array Int).getD ((M 19 x1) - 0).toNat 0).toNat) _ _ _ _
        rw [hv]
        exact h _
      · have h := h5 hv
        show xGo xft xNf xmt xtr d 27 ((((17 : Nat) : Int) + (#[39, 41, 58, 137, 164, 91] : Array Int).getD ((M 19 x1) - 0).toNat 0).toNat) _ _ _ _
        rw [hv]
        exact h
      · have h := h6 hv
        show xGo xft xNf xmt xtr d 27 ((((17 : Nat) : Int) + (#[39, 41, 58, 137, 164, 91] : Array Int).getD ((M 19 x1) - 0).toNat 0).toNat) _ _ _ _
        rw [hv]
        exact h
  · replace h := h.2.2 c
    exact And.intro (by decide) (yI_ret h)
theorem c_Ju_fits_56 {e : yE} {d : Nat} {M : xM} {Q : Int → xM → Prop} (hs : CSh e) (h :
    Q (1 : Int) M) : C_Ju_fits_56 e d  M Q := by
  intro o1 o2 o3
  refine xGo.in ?_
  exact And.intro (by decide) (yI_ret h)
theorem c_Ju_fits_58 {e : yE} {d : Nat} {x1 x2 : Int} {M : xM} {Q : Int → xM → Prop} (hs : CSh e) (h :
    (0 ≤ x1 ∧ x1 < 300) ∧ 
    ((0 ≤ (M 21 x1) ∧ (M 21 x1) < 16) ∧ 
    (∀ M1 : xM, M1 = xup M 52 (M 21 x1) x2 → 
    (Q (1 : Int) M1)))) : C_Ju_fits_58 e d x1 x2 M Q := by
  intro o3
  refine xGo.in ?_
  refine And.intro (cob_51 hs) ?_
  refine And.intro (cob_51 hs) ?_
  refine And.intro (ob5 (c5_18 hs)) ?_
  refine And.intro (xi_ld (caa_21 hs) (h.1)) ?_
  replace h := h.2
  refine And.intro (xi_st (caa_52 hs) (h.1)) ?_
  replace h := h.2
  obtain ⟨M1, hM1⟩ : ∃ z : xM, z = xup M 52 (M 21 x1) x2 := ⟨_, rfl⟩
  refine xgo_st (e := e) (M := M1) (by subst hM1; rfl) ?_
  replace h := h M1 hM1
  exact And.intro (by decide) (yI_ret h)
theorem c_Ju_fits_75 {e : yE} {d : Nat} {x1 x2 x3 : Int} {M : xM} {Q : Int → xM → Prop} (hs : CSh e) (h :
    (0 ≤ x1 ∧ x1 < 300) ∧ 
    ((0 ≤ (M 21 x1) ∧ (M 21 x1) < 16) ∧ 
    (∀ M1 : xM, M1 = xup M 52 (M 21 x1) x2 → 
    (C_Tm_partOf e d 18 x1 (0 : Int) M1 (fun y3 M2 => 
    C_Ju_fits e d y3 x2 (x3 + (1 : Int)) M2 (fun y5 M4 => 
    (y5 = 0 ∨ y5 = 1) ∧ Q y5 M4)))))) : C_Ju_fits_75 e d x1 x2 x3 M Q := by
  refine xGo.in ?_
  refine And.intro (cob_51 hs) ?_
  refine And.intro (cob_51 hs) ?_
  refine And.intro (ob5 (c5_18 hs)) ?_
  refine And.intro (xi_ld (caa_21 hs) (h.1)) ?_
  replace h := h.2
  refine And.intro (xi_st (caa_52 hs) (h.1)) ?_
  replace h := h.2
  obtain ⟨M1, hM1⟩ : ∃ z : xM, z = xup M 52 (M 21 x1) x2 := ⟨_, rfl⟩
  refine xgo_st (e := e) (M := M1) (by subst hM1; rfl) ?_
  replace h := h M1 hM1
  refine And.intro (cob_51 hs) ?_
  refine And.intro ⟨Nat.le_of_ble_eq_true rfl, Nat.le_of_ble_eq_true rfl, ob5 (c5_18 hs)⟩ ?_
  refine yI_use h (fun y3 M2 h => ?_)
  refine And.intro ⟨Nat.le_of_ble_eq_true rfl, Nat.le_of_ble_eq_true rfl, cob_51 hs⟩ ?_
  refine yI_use h (fun y5 M4 h => ?_)
  exact And.intro h.1 (yI_ret h.2)
theorem c_Ju_fits_108 {e : yE} {d : Nat} {x1 x2 x3 : Int} {M : xM} {Q : Int → xM → Prop} (hs : CSh e) (h :
    C_Tm_partOf e d 18 x1 (0 : Int) M (fun y2 M1 => 
    C_Ju_fits e d y2 x2 (x3 + (1 : Int)) M1 (fun y4 M3 => 
    (rg y4) ∧ ((¬ y4 = 0 → 
      (Q (1 : Int) M3)) ∧ 
    (¬ (¬ y4 = 0) → 
      (C_Tm_partOf e d 18 x1 (1 : Int) M3 (fun y6 M5 => 
      C_Ju_fits e d y6 x2 (x3 + (1 : Int)) M5 (fun y8 M7 => 
      (rg y8) ∧ ((y8 = 0 → 
        (Q (0 : Int) M7)) ∧ 
      (¬ (y8 = 0) → 
        (Q (1 : Int) M7))))))))))) : C_Ju_fits_108 e d x1 x2 x3 M Q := by
  refine xGo.in ?_
  refine And.intro (cob_51 hs) ?_
  refine And.intro ⟨Nat.le_of_ble_eq_true rfl, Nat.le_of_ble_eq_true rfl, ob5 (c5_18 hs)⟩ ?_
  refine yI_use h (fun y2 M1 h => ?_)
  refine And.intro ⟨Nat.le_of_ble_eq_true rfl, Nat.le_of_ble_eq_true rfl, cob_51 hs⟩ ?_
  refine yI_use h (fun y4 M3 h => ?_)
  refine And.intro (h.1) (And.intro (fun c => ?_) (fun c => ?_))
  · replace h := h.2.1 c
    exact And.intro (by decide) (yI_ret h)
  · replace h := h.2.2 c
    refine And.intro (cob_51 hs) ?_
    refine And.intro ⟨Nat.le_of_ble_eq_true rfl, Nat.le_of_ble_eq_true rfl, ob5 (c5_18 hs)⟩ ?_
    refine yI_use h (fun y6 M5 h => ?_)
    refine And.intro ⟨Nat.le_of_ble_eq_true rfl, Nat.le_of_ble_eq_true rfl, cob_51 hs⟩ ?_
    refine yI_use h (fun y8 M7 h => ?_)
    refine And.intro (h.1) (And.intro (fun c => ?_) (fun c => ?_))
    · replace h := h.2.1 c
      exact And.intro (by decide) (yI_ret h)
    · replace h := h.2.2 c
      exact And.intro (by decide) (yI_ret h)
theorem c_Ju_fits_154 {e : yE} {d : Nat} {x1 x2 : Int} {M : xM} {Q : Int → xM → Prop} (hs : CSh e) (h :
    (0 ≤ x1 ∧ x1 < 300) ∧ 
    ((0 ≤ x2 ∧ x2 < 300) ∧ 
    ((rg (M 21 x1) ∧ rg (M 11 x2)) ∧ ((¬ (M 21 x1) = (M 11 x2) → 
      (Q (0 : Int) M)) ∧ 
    (¬ (¬ (M 21 x1) = (M 11 x2)) → 
      (Q (1 : Int) M)))))) : C_Ju_fits_154 e d x1 x2 M Q := by
  intro o3
  refine xGo.in ?_
  refine And.intro (cob_51 hs) ?_
  refine And.intro (ob5 (c5_18 hs)) ?_
  refine And.intro (xi_ld (caa_21 hs) (h.1)) ?_
  replace h := h.2
  refine And.intro (cob_51 hs) ?_
  refine And.intro (ob5 (c5_8 hs)) ?_
  refine And.intro (xi_ld (caa_11 hs) (h.1)) ?_
  replace h := h.2
  refine And.intro (⟨h.1.1, h.1.2⟩) (And.intro (fun c => ?_) (fun c => ?_))
  · replace h := h.2.1 c
    exact And.intro (by decide) (yI_ret h)
  · replace h := h.2.2 c
    exact And.intro (by decide) (yI_ret h)
theorem c_Ju_fits_181 {e : yE} {d : Nat} {x1 x2 x3 : Int} {M : xM} {Q : Int → xM → Prop} (hs : CSh e) (h :
    (0 ≤ x1 ∧ x1 < 300) ∧ 
    ((0 ≤ x2 ∧ x2 < 300) ∧ 
    ((rg (M 21 x1) ∧ rg (M 11 x2)) ∧ ((¬ (M 21 x1) = (M 11 x2) → 
      (Q (0 : Int) M)) ∧ 
    (¬ (¬ (M 21 x1) = (M 11 x2)) → 
      (C_Ju_partsFit e d x1 x2 x3 M (fun y2 M1 => 
      (rg y2) ∧ ((y2 = 0 → 
        (Q (0 : Int) M1)) ∧ 
      (¬ (y2 = 0) → 
        (Q (1 : Int) M1)))))))))) : C_Ju_fits_181 e d x1 x2 x3 M Q := by
  refine xGo.in ?_
  refine And.intro (cob_51 hs) ?_
  refine And.intro (ob5 (c5_18 hs)) ?_
  refine And.intro (xi_ld (caa_21 hs) (h.1)) ?_
  replace h := h.2
  refine And.intro (cob_51 hs) ?_
  refine And.intro (ob5 (c5_8 hs)) ?_
  refine And.intro (xi_ld (caa_11 hs) (h.1)) ?_
  replace h := h.2
  refine And.intro (⟨h.1.1, h.1.2⟩) (And.intro (fun c => ?_) (fun c => ?_))
  · replace h := h.2.1 c
    exact And.intro (by decide) (yI_ret h)
  · replace h := h.2.2 c
    refine And.intro ⟨Nat.le_of_ble_eq_true rfl, Nat.le_of_ble_eq_true rfl, cob_51 hs⟩ ?_
    refine yI_use h (fun y2 M1 h => ?_)
    refine And.intro (h.1) (And.intro (fun c => ?_) (fun c => ?_))
    · replace h := h.2.1 c
      exact And.intro (by decide) (yI_ret h)
    · replace h := h.2.2 c
      exact And.intro (by decide) (yI_ret h)
theorem c_Ju_fits {e : yE} {d : Nat} {x1 : Int} {x2 : Int} {x3 : Int} {M : xM} {Q : Int → xM → Prop} (h : C_Ju_fits_0 e d x1 x2 x3 M Q) : C_Ju_fits e (d + 1) x1 x2 x3 M Q := h
def C_Ju_partsFit_0 (e : yE) (d : Nat) (x1 x2 x3 : Int) (M : xM) (Q : Int → xM → Prop) : Prop := ∀ (o4 o5 : Option xV), xGo xft xNf xmt xtr d 28 0 [some (.inr (some 51)), some (.inl x1), some (.inl x2), some (.inl x3), o4, o5] [] (yS e M) (yI e Q)
def C_Ju_partsFit_14 (e : yE) (d : Nat) (x1 x2 x3 x4 x5 : Int) (M : xM) (Q : Int → xM → Prop) : Prop := xGo xft xNf xmt xtr d 28 14 [some (.inr (some 51)), some (.inl x1), some (.inl x2), some (.inl x3), some (.inl x4), some (.inl x5)] [] (yS e M) (yI e Q)
theorem c_Ju_partsFit_0 {e : yE} {d : Nat} {x1 x2 x3 : Int} {M : xM} {Q : Int → xM → Prop} (hs : CSh e) (h :
    (0 ≤ x1 ∧ x1 < 300) ∧ 
    (C_Ju_partsFit_14 e d x1 x2 x3 (M 23 x1) (0 : Int) M Q)) : C_Ju_partsFit_0 e d x1 x2 x3 M Q := by
  intro o4 o5
  refine xGo.in ?_
  refine And.intro (cob_51 hs) ?_
  refine And.intro (ob5 (c5_18 hs)) ?_
  refine And.intro (xi_ld (caa_23 hs) (h.1)) ?_
  replace h := h.2
  exact h
theorem c_Ju_partsFit_14 {e : yE} {d : Nat} {x1 x2 x3 x4 x5 : Int} {M : xM} {Q : Int → xM → Prop} (hs : CSh e) (h :
    (rg x5 ∧ rg x4) ∧ ((x4 ≤ x5 → 
      (Q (1 : Int) M)) ∧ 
    (¬ (x4 ≤ x5) → 
      (C_Tm_partOf e d 18 x1 x5 M (fun y2 M1 => 
      C_Tm_partOf e d 8 x2 x5 M1 (fun y4 M3 => 
      C_Ju_fits e d y2 y4 (x3 + (1 : Int)) M3 (fun y6 M5 => 
      (rg y6) ∧ ((¬ y6 = 0 → 
        (C_Ju_partsFit_14 e d x1 x2 x3 x4 (x5 + 1) M5 Q)) ∧ 
      (¬ (¬ y6 = 0) → 
        (Q (0 : Int) M5)))))))))) : C_Ju_partsFit_14 e d x1 x2 x3 x4 x5 M Q := by
  refine xGo.in ?_
  refine And.intro (⟨h.1.1, h.1.2⟩) (And.intro (fun c => ?_) (fun c => ?_))
  · replace h := h.2.1 c
    exact And.intro (by decide) (yI_ret h)
  · replace h := h.2.2 c
    refine And.intro (cob_51 hs) ?_
    refine And.intro ⟨Nat.le_of_ble_eq_true rfl, Nat.le_of_ble_eq_true rfl, ob5 (c5_18 hs)⟩ ?_
    refine yI_use h (fun y2 M1 h => ?_)
    refine And.intro (cob_51 hs) ?_
    refine And.intro ⟨Nat.le_of_ble_eq_true rfl, Nat.le_of_ble_eq_true rfl, ob5 (c5_8 hs)⟩ ?_
    refine yI_use h (fun y4 M3 h => ?_)
    refine And.intro ⟨Nat.le_of_ble_eq_true rfl, Nat.le_of_ble_eq_true rfl, cob_51 hs⟩ ?_
    refine yI_use h (fun y6 M5 h => ?_)
    refine And.intro (h.1) (And.intro (fun c => ?_) (fun c => ?_))
    · replace h := h.2.1 c
      exact h
    · replace h := h.2.2 c
      exact And.intro (by decide) (yI_ret h)
theorem c_Ju_partsFit {e : yE} {d : Nat} {x1 : Int} {x2 : Int} {x3 : Int} {M : xM} {Q : Int → xM → Prop} (h : C_Ju_partsFit_0 e d x1 x2 x3 M Q) : C_Ju_partsFit e (d + 1) x1 x2 x3 M Q := h _ _
def C_Ma_addRow_0 (e : yE) (d : Nat) (k : Nat) (a1 : Nat) (n1 : Nat) (x2 x3 : Int) (M : xM) (Q : Int → xM → Prop) : Prop := ∀ (o4 : Option xV), xGo xft xNf xmt xtr d 30 0 [some (.inr (some k)), some (.inr (some a1)), some (.inl x2), some (.inl x3), o4] [] (yS e M) (yI e Q)
def C_Ma_addRow_14 (e : yE) (d : Nat) (k : Nat) (a1 : Nat) (n1 : Nat) (x2 x3 x4 : Int) (M : xM) (Q : Int → xM → Prop) : Prop := xGo xft xNf xmt xtr d 30 14 [some (.inr (some k)), some (.inr (some a1)), some (.inl x2), some (.inl x3), some (.inl x4)] [] (yS e M) (yI e Q)
theorem c_Ma_addRow_0 {e : yE} {d : Nat} {k : Nat} {a1 : Nat} {n1 : Nat} {x2 x3 : Int} {M : xM} {Q : Int → xM → Prop} (hs : CSh e) (hk : XSh3 k e) (h1 : yA e a1 1 n1) (h :
    (rg (M k 2)) ∧ ((¬ (M k 2) = (12 : Int) → 
      (C_Ma_addRow_14 e d k a1 n1 x2 x3 (0 : Int) M Q)) ∧ 
    (¬ (¬ (M k 2) = (12 : Int)) → 
      (Q (-1 : Int) M)))) : C_Ma_addRow_0 e d k a1 n1 x2 x3 M Q := by
  intro o4
  refine xGo.in ?_
  refine And.intro (ob3 hk) ?_
  refine And.intro (⟨h.1, rg_lit (by decide)⟩) (And.intro (fun c => ?_) (fun c => ?_))
  · replace h := h.2.1 c
    exact h
  · replace h := h.2.2 c
    exact yI_ret h
theorem c_Ma_addRow_14 {e : yE} {d : Nat} {k : Nat} {a1 : Nat} {n1 : Nat} {x2 x3 x4 : Int} {M : xM} {Q : Int → xM → Prop} (hs : CSh e) (hk : XSh3 k e) (h1 : yA e a1 1 n1) (h :
    (rg x4 ∧ rg (M k 0)) ∧ (((M k 0) ≤ x4 → 
      ((0 ≤ (M k 2) ∧ (M k 2) < 12) ∧ 
      (∀ M1 : xM, M1 = xup M (k + 3) (M k 2) x2 → 
      ((0 ≤ (M1 k 2) ∧ (M1 k 2) < 12) ∧ 
      (∀ M2 : xM, M2 = xup M1 (k + 4) (M1 k 2) x3 → 
      (∀ M3 : xM, M3 = xup M2 k 7 (1 : Int) → 
      (∀ M4 : xM, M4 = xup M3 k 2 ((M3 k 2) + (1 : Int)) → 
      (Q ((M4 k 2) - (1 : Int)) M4)))))))) ∧ 
    (¬ ((M k 0) ≤ x4) → 
      ((0 ≤ x4 ∧ x4 < (n1 : Int)) ∧ 
      ((0 ≤ (((M k 2) * (3 : Int)) + x4) ∧ (((M k 2) * (3 : Int)) + x4) < 36) ∧ 
      (∀ M5 : xM, M5 = xup M (k + 2) (((M k 2) * (3 : Int)) + x4) (M a1 x4) → 
      (C_Ma_addRow_14 e d k a1 n1 x2 x3 (x4 + 1) M5 Q))))))) : C_Ma_addRow_14 e d k a1 n1 x2 x3 x4 M Q := by
  refine xGo.in ?_
  refine And.intro (ob3 hk) ?_
  refine And.intro (⟨h.1.1, h.1.2⟩) (And.intro (fun c => ?_) (fun c => ?_))
  · replace h := h.2.1 c
    refine And.intro (ob3 hk) ?_
    refine And.intro (ob3 hk) ?_
    refine And.intro (xi_st (a3_3 hk) (h.1)) ?_
    replace h := h.2
    obtain ⟨M1, hM1⟩ : ∃ z : xM, z = xup M (k + 3) (M k 2) x2 := ⟨_, rfl⟩
    refine xgo_st (e := e) (M := M1) (by subst hM1; rfl) ?_
    replace h := h M1 hM1
    refine And.intro (ob3 hk) ?_
    refine And.intro (ob3 hk) ?_
    refine And.intro (xi_st (a3_4 hk) (h.1)) ?_
    replace h := h.2
    obtain ⟨M2, hM2⟩ : ∃ z : xM, z = xup M1 (k + 4) (M1 k 2) x3 := ⟨_, rfl⟩
    refine xgo_st (e := e) (M := M2) (by subst hM2; rfl) ?_
    replace h := h M2 hM2
    refine And.intro (gob (ob3 hk) (by decide)) ?_
    obtain ⟨M3, hM3⟩ : ∃ z : xM, z = xup M2 k 7 (1 : Int) := ⟨_, rfl⟩
    refine xgo_st (e := e) (M := M3) (by subst hM3; rfl) ?_
    replace h := h M3 hM3
    refine And.intro (ob3 hk) ?_
    refine And.intro (ob3 hk) ?_
    obtain ⟨M4, hM4⟩ : ∃ z : xM, z = xup M3 k 2 ((M3 k 2) + (1 : Int)) := ⟨_, rfl⟩
    refine xgo_st (e := e) (M := M4) (by subst hM4; rfl) ?_
    replace h := h M4 hM4
    refine And.intro (ob3 hk) ?_
    exact yI_ret h
  · replace h := h.2.2 c
    refine And.intro (ob3 hk) ?_
    refine And.intro (ob3 hk) ?_
    refine And.intro (xi_ld (h1) (h.1)) ?_
    replace h := h.2
    refine And.intro (xi_st (a3_2 hk) (h.1)) ?_
    replace h := h.2
    obtain ⟨M5, hM5⟩ : ∃ z : xM, z = xup M (k + 2) (((M k 2) * (3 : Int)) + x4) (M a1 x4) := ⟨_, rfl⟩
    refine xgo_st (e := e) (M := M5) (by subst hM5; rfl) ?_
    replace h := h M5 hM5
    exact h
theorem c_Ma_addRow {e : yE} {d : Nat} {k : Nat} {a1 : Nat} {n1 : Nat} {x2 : Int} {x3 : Int} {M : xM} {Q : Int → xM → Prop} (h : C_Ma_addRow_0 e d k a1 n1 x2 x3 M Q) : C_Ma_addRow e (d + 1) k a1 n1 x2 x3 M Q := h _
def C_Ma_patternOf_0 (e : yE) (d : Nat) (k : Nat) (x1 x2 : Int) (M : xM) (Q : Int → xM → Prop) : Prop := xGo xft xNf xmt xtr d 31 0 [some (.inr (some k)), some (.inl x1), some (.inl x2)] [] (yS e M) (yI e Q)
theorem c_Ma_patternOf_0 {e : yE} {d : Nat} {k : Nat} {x1 x2 : Int} {M : xM} {Q : Int → xM → Prop} (hs : CSh e) (hk : XSh3 k e) (h :
    (0 ≤ ((x1 * (3 : Int)) + x2) ∧ ((x1 * (3 : Int)) + x2) < 36) ∧ 
    (Q (M (k + 2) ((x1 * (3 : Int)) + x2)) M)) : C_Ma_patternOf_0 e d k x1 x2 M Q := by
  refine xGo.in ?_
  refine And.intro (ob3 hk) ?_
  refine And.intro (xi_ld (a3_2 hk) (h.1)) ?_
  replace h := h.2
  exact yI_ret h
theorem c_Ma_patternOf {e : yE} {d : Nat} {k : Nat} {x1 : Int} {x2 : Int} {M : xM} {Q : Int → xM → Prop} (h : C_Ma_patternOf_0 e d k x1 x2 M Q) : C_Ma_patternOf e (d + 1) k x1 x2 M Q := h
def C_Ma_isGuarded_0 (e : yE) (d : Nat) (k : Nat) (x1 : Int) (M : xM) (Q : Int → xM → Prop) : Prop := xGo xft xNf xmt xtr d 32 0 [some (.inr (some k)), some (.inl x1)] [] (yS e M) (yI e Q)
theorem c_Ma_isGuarded_0 {e : yE} {d : Nat} {k : Nat} {x1 : Int} {M : xM} {Q : Int → xM → Prop} (hs : CSh e) (hk : XSh3 k e) (h :
    (0 ≤ x1 ∧ x1 < 12) ∧ 
    ((rg (M (k + 3) x1)) ∧ (((M (k + 3) x1) = (-1 : Int) → 
      (Q (0 : Int) M)) ∧ 
    (¬ ((M (k + 3) x1) = (-1 : Int)) → 
      (Q (1 : Int) M))))) : C_Ma_isGuarded_0 e d k x1 M Q := by
  refine xGo.in ?_
  refine And.intro (ob3 hk) ?_
  refine And.intro (xi_ld (a3_3 hk) (h.1)) ?_
  replace h := h.2
  refine And.intro (⟨h.1, rg_lit (by decide)⟩) (And.intro (fun c => ?_) (fun c => ?_))
  · replace h := h.2.1 c
    exact And.intro (by decide) (yI_ret h)
  · replace h := h.2.2 c
    exact And.intro (by decide) (yI_ret h)
theorem c_Ma_isGuarded {e : yE} {d : Nat} {k : Nat} {x1 : Int} {M : xM} {Q : Int → xM → Prop} (h : C_Ma_isGuarded_0 e d k x1 M Q) : C_Ma_isGuarded e (d + 1) k x1 M Q := h
def C_Ma_isOfOneType_0 (e : yE) (d : Nat) (k : Nat) (M : xM) (Q : Int → xM → Prop) : Prop := ∀ (o1 : Option xV), xGo xft xNf xmt xtr d 33 0 [some (.inr (some k)), o1] [] (yS e M) (yI e Q)
def C_Ma_isOfOneType_2 (e : yE) (d : Nat) (k : Nat) (x1 : Int) (M : xM) (Q : Int → xM → Prop) : Prop := xGo xft xNf xmt xtr d 33 2 [some (.inr (some k)), some (.inl x1)] [] (yS e M) (yI e Q)
theorem c_Ma_isOfOneType_0 {e : yE} {d : Nat} {k : Nat} {M : xM} {Q : Int → xM → Prop} (hs : CSh e) (hk : XSh3 k e) (h :
    C_Ma_isOfOneType_2 e d k (1 : Int) M Q) : C_Ma_isOfOneType_0 e d k M Q := by
  intro o1
  refine xGo.in ?_
  exact h
theorem c_Ma_isOfOneType_2 {e : yE} {d : Nat} {k : Nat} {x1 : Int} {M : xM} {Q : Int → xM → Prop} (hs : CSh e) (hk : XSh3 k e) (h :
    (rg x1 ∧ rg (M k 0)) ∧ (((M k 0) ≤ x1 → 
      (Q (1 : Int) M)) ∧ 
    (¬ ((M k 0) ≤ x1) → 
      ((0 ≤ x1 ∧ x1 < 3) ∧ 
      ((rg (M (k + 1) x1) ∧ rg (M (k + 1) (0 : Int))) ∧ (((M (k + 1) x1) = (M (k + 1) (0 : Int)) → 
        (C_Ma_isOfOneType_2 e d k (x1 + 1) M Q)) ∧ 
      (¬ ((M (k + 1) x1) = (M (k + 1) (0 : Int))) → 
        (Q (0 : Int) M)))))))) : C_Ma_isOfOneType_2 e d k x1 M Q := by
  refine xGo.in ?_
  refine And.intro (ob3 hk) ?_
  refine And.intro (⟨h.1.1, h.1.2⟩) (And.intro (fun c => ?_) (fun c => ?_))
  · replace h := h.2.1 c
    exact And.intro (by decide) (yI_ret h)
  · replace h := h.2.2 c
    refine And.intro (ob3 hk) ?_
    refine And.intro (xi_ld (a3_1 hk) (h.1)) ?_
    replace h := h.2
    refine And.intro (ob3 hk) ?_
    refine And.intro (xi_ld (a3_1 hk) (⟨by decide, by decide⟩)) ?_
    refine And.intro (⟨h.1.1, h.1.2⟩) (And.intro (fun c => ?_) (fun c => ?_))
    · replace h := h.2.1 c
      exact h
    · replace h := h.2.2 c
      exact And.intro (by decide) (yI_ret h)
theorem c_Ma_isOfOneType {e : yE} {d : Nat} {k : Nat} {M : xM} {Q : Int → xM → Prop} (h : C_Ma_isOfOneType_0 e d k M Q) : C_Ma_isOfOneType e (d + 1) k M Q := h _
def C_Te_tell_0 (e : yE) (d : Nat) (a1 : Nat) (M : xM) (Q : Int → xM → Prop) : Prop := ∀ (o2 o3 : Option xV), xGo xft xNf xmt xtr d 35 0 [some (.inr (some 53)), some (.inr (some a1)), o2, o3] [] (yS e M) (yI e Q)
theorem c_Te_tell_0 {e : yE} {d : Nat} {a1 : Nat} {M : xM} {Q : Int → xM → Prop} (hs : CSh e) (h1 : XSh3 a1 e) (h :
    (rg (M (a1 + 5) 3)) ∧ ((¬ (M (a1 + 5) 3) = (-1 : Int) → 
      (C_Te_markWay e d (a1 + 5) M (fun M1 => 
      C_Te_spell e d a1 M1 (fun y3 M2 => 
      (rg y3) ∧ ((y3 ≤ (4000 : Int) → 
        (∃ q4 nq4 : Nat, (M2 53 1 = (q4 : Int) ∧ yA e q4 1 nq4) ∧ 
        (∃ q5 nq5 : Nat, (M2 53 2 = (q5 : Int) ∧ yA e q5 1 nq5) ∧ 
        (∀ M6 : xM, M6 = xup M2 53 1 (q5 : Nat) → 
        (∀ M7 : xM, M7 = xup M6 53 2 (q4 : Nat) → 
        (∀ M8 : xM, M8 = xup M7 53 3 y3 → 
        (Q y3 M8))))))) ∧ 
      (¬ (y3 ≤ (4000 : Int)) → 
        (Q (-2 : Int) M2))))))) ∧ 
    (¬ (¬ (M (a1 + 5) 3) = (-1 : Int)) → 
      (∀ M9 : xM, M9 = xup M 53 3 (0 : Int) → 
      (Q (0 : Int) M9))))) : C_Te_tell_0 e d a1 M Q := by
  intro o2 o3
  refine xGo.in ?_
  refine And.intro (ob3 h1) ?_
  refine And.intro (ob6 (t3 h1)) ?_
  refine And.intro (⟨h.1, rg_lit (by decide)⟩) (And.intro (fun c => ?_) (fun c => ?_))
  · replace h := h.2.1 c
    refine And.intro (ob3 h1) ?_
    refine And.intro ⟨Nat.le_of_ble_eq_true rfl, Nat.le_of_ble_eq_true rfl, cob_53 hs⟩ ?_
    refine yV_use h (fun _ M1 h => ?_)
    refine And.intro ⟨Nat.le_of_ble_eq_true rfl, Nat.le_of_ble_eq_true rfl, cob_53 hs⟩ ?_
    refine yI_use h (fun y3 M2 h => ?_)
    refine And.intro (⟨h.1, rg_lit (by decide)⟩) (And.intro (fun c => ?_) (fun c => ?_))
    · replace h := h.2.1 c
      refine And.intro (cob_53 hs) ?_
      obtain ⟨q4, nq4, ⟨eq4, hq4⟩, h⟩ := h
      refine xgo_top (xg3 (a := 4) (j := 1) rfl eq4) ?_
      refine And.intro (cob_53 hs) ?_
      obtain ⟨q5, nq5, ⟨eq5, hq5⟩, h⟩ := h
      refine xgo_top (xg3 (a := 4) (j := 2) rfl eq5) ?_
      refine And.intro (gob (cob_53 hs) (hq5.2.1)) ?_
      obtain ⟨M6, hM6⟩ : ∃ z : xM, z = xup M2 53 1 (q5 : Nat) := ⟨_, rfl⟩
      refine xgo_st (e := e) (M := M6) (by subst hM6; rfl) ?_
      replace h := h M6 hM6
      refine And.intro (gob (cob_53 hs) (hq4.2.1)) ?_
      obtain ⟨M7, hM7⟩ : ∃ z : xM, z = xup M6 53 2 (q4 : Nat) := ⟨_, rfl⟩
      refine xgo_st (e := e) (M := M7) (by subst hM7; rfl) ?_
      replace h := h M7 hM7
      refine And.intro (cob_53 hs) ?_
      obtain ⟨M8, hM8⟩ : ∃ z : xM, z = xup M7 53 3 y3 := ⟨_, rfl⟩
      refine xgo_st (e := e) (M := M8) (by subst hM8; rfl) ?_
      replace h := h M8 hM8
      exact yI_ret h
    · replace h := h.2.2 c
      exact yI_ret h
  · replace h := h.2.2 c
    refine And.intro (cob_53 hs) ?_
    obtain ⟨M9, hM9⟩ : ∃ z : xM, z = xup M 53 3 (0 : Int) := ⟨_, rfl⟩
    refine xgo_st (e := e) (M := M9) (by subst hM9; rfl) ?_
    replace h := h M9 hM9
    exact yI_ret h
theorem c_Te_tell {e : yE} {d : Nat} {a1 : Nat} {M : xM} {Q : Int → xM → Prop} (h : C_Te_tell_0 e d a1 M Q) : C_Te_tell e (d + 1) a1 M Q := h _ _
def C_Te_markWay_0 (e : yE) (d : Nat) (a1 : Nat) (M : xM) (Q : xM → Prop) : Prop := ∀ (o2 o3 o4 : Option xV), xGo xft xNf xmt xtr d 36 0 [some (.inr (some 53)), some (.inr (some a1)), o2, o3, o4] [] (yS e M) (yV e Q)
def C_Te_markWay_15 (e : yE) (d : Nat) (a1 : Nat) (x2 x3 : Int) (M : xM) (Q : xM → Prop) : Prop := ∀ (o4 : Option xV), xGo xft xNf xmt xtr d 36 15 [some (.inr (some 53)), some (.inr (some a1)), some (.inl x2), some (.inl x3), o4] [] (yS e M) (yV e Q)
theorem c_Te_markWay_0 {e : yE} {d : Nat} {a1 : Nat} {M : xM} {Q : xM → Prop} (hs : CSh e) (h1 : XSh6 a1 e) (h :
    C_Ar_fill e d 56 360 (-1 : Int) M (fun M1 => 
    C_Te_markWay_15 e d a1 (M1 a1 3) (0 : Int) M1 Q)) : C_Te_markWay_0 e d a1 M Q := by
  intro o2 o3 o4
  refine xGo.in ?_
  refine And.intro (cob_53 hs) ?_
  refine And.intro ⟨Nat.le_of_ble_eq_true rfl, Nat.le_of_ble_eq_true rfl, trivial⟩ ?_
  refine yV_use h (fun _ M1 h => ?_)
  refine And.intro (ob6 h1) ?_
  exact h _
theorem c_Te_markWay_15 {e : yE} {d : Nat} {a1 : Nat} {x2 x3 : Int} {M : xM} {Q : xM → Prop} (hs : CSh e) (h1 : XSh6 a1 e) (h :
    (rg x3) ∧ (((120 : Int) ≤ x3 → 
      (Q M)) ∧ 
    (¬ ((120 : Int) ≤ x3) → 
      ((0 ≤ x2 ∧ x2 < 120) ∧ 
      ((rg (M (a1 + 6) x2)) ∧ (((M (a1 + 6) x2) = (-1 : Int) → 
        (Q M)) ∧ 
      (¬ ((M (a1 + 6) x2) = (-1 : Int)) → 
        ((0 ≤ x2 ∧ x2 < 120) ∧ 
        ((0 ≤ (M (a1 + 6) x2) ∧ (M (a1 + 6) x2) < 120) ∧ 
        ((rg (M (a1 + 3) (M (a1 + 6) x2))) ∧ ((¬ (M (a1 + 3) (M (a1 + 6) x2)) = 0 → 
          (C_Te_markWay_15 e d a1 (M (a1 + 6) x2) (x3 + 1) M Q)) ∧ 
        (¬ (¬ (M (a1 + 3) (M (a1 + 6) x2)) = 0) → 
          ((0 ≤ (M (a1 + 6) x2) ∧ (M (a1 + 6) x2) < 120) ∧ 
          ((0 ≤ (M (a1 + 5) (M (a1 + 6) x2)) ∧ (M (a1 + 5) (M (a1 + 6) x2)) < 360) ∧ 
          (∀ M1 : xM, M1 = xup M 56 (M (a1 + 5) (M (a1 + 6) x2)) x2 → 
          (C_Te_markWay_15 e d a1 (M (a1 + 6) x2) (x3 + 1) M1 Q)))))))))))))))) : C_Te_markWay_15 e d a1 x2 x3 M Q := by
  intro o4
  refine xGo.in ?_
  refine And.intro (⟨h.1, rg_lit (by decide)⟩) (And.intro (fun c => ?_) (fun c => ?_))
  · replace h := h.2.1 c
    exact yV_ret (r := .inl 0) h
  · replace h := h.2.2 c
    refine And.intro (ob6 h1) ?_
    refine And.intro (xi_ld (a6_6 h1) (h.1)) ?_
    replace h := h.2
    refine And.intro (⟨h.1, rg_lit (by decide)⟩) (And.intro (fun c => ?_) (fun c => ?_))
    · replace h := h.2.1 c
      exact yV_ret (r := .inl 0) h
    · replace h := h.2.2 c
      refine And.intro (ob6 h1) ?_
      refine And.intro (xi_ld (a6_6 h1) (h.1)) ?_
      replace h := h.2
      refine And.intro (ob6 h1) ?_
      refine And.intro (xi_ld (a6_3 h1) (h.1)) ?_
      replace h := h.2
      refine And.intro (h.1) (And.intro (fun c => ?_) (fun c => ?_))
      · replace h := h.2.1 c
        exact h _
      · replace h := h.2.2 c
        refine And.intro (cob_53 hs) ?_
        refine And.intro (ob6 h1) ?_
        refine And.intro (xi_ld (a6_5 h1) (h.1)) ?_
        replace h := h.2
        refine And.intro (xi_st (caa_56 hs) (h.1)) ?_
        replace h := h.2
        obtain ⟨M1, hM1⟩ : ∃ z : xM, z = xup M 56 (M (a1 + 5) (M (a1 + 6) x2)) x2 := ⟨_, rfl⟩
        refine xgo_st (e := e) (M := M1) (by subst hM1; rfl) ?_
        replace h := h M1 hM1
        exact h _
theorem c_Te_markWay {e : yE} {d : Nat} {a1 : Nat} {M : xM} {Q : xM → Prop} (h : C_Te_markWay_0 e d a1 M Q) : C_Te_markWay e (d + 1) a1 M Q := h _ _ _
def C_Te_spell_0 (e : yE) (d : Nat) (a1 : Nat) (M : xM) (Q : Int → xM → Prop) : Prop := ∀ (o2 o3 o4 o5 o6 o7 o8 o9 : Option xV), xGo xft xNf xmt xtr d 37 0 [some (.inr (some 53)), some (.inr (some a1)), o2, o3, o4, o5, o6, o7, o8, o9] [] (yS e M) (yI e Q)
def C_Te_spell_15 (e : yE) (d : Nat) (a1 : Nat) (x3 x4 : Int) (M : xM) (Q : Int → xM → Prop) : Prop := ∀ (o1 o5 o6 o7 o8 o9 : Option xV), xGo xft xNf xmt xtr d 37 15 [some (.inr (some 53)), o1, some (.inr (some (a1 + 5))), some (.inl x3), some (.inl x4), o5, o6, o7, o8, o9] [] (yS e M) (yI e Q)
def C_Te_spell_40 (e : yE) (d : Nat) (a1 : Nat) (x3 x4 : Int) (M : xM) (Q : Int → xM → Prop) : Prop := ∀ (o1 o5 o6 o7 o8 o9 : Option xV), xGo xft xNf xmt xtr d 37 40 [some (.inr (some 53)), o1, some (.inr (some (a1 + 5))), some (.inl x3), some (.inl x4), o5, o6, o7, o8, o9] [] (yS e M) (yI e Q)
def C_Te_spell_82 (e : yE) (d : Nat) (a1 : Nat) (x3 x4 x5 s0 : Int) (M : xM) (Q : Int → xM → Prop) : Prop := ∀ (o1 o6 o7 o8 o9 : Option xV), xGo xft xNf xmt xtr d 37 82 [some (.inr (some 53)), o1, some (.inr (some (a1 + 5))), some (.inl x3), some (.inl x4), some (.inl x5), o6, o7, o8, o9] [.inl s0] (yS e M) (yI e Q)
def C_Te_spell_100 (e : yE) (d : Nat) (a1 : Nat) (x3 x4 x6 s0 : Int) (M : xM) (Q : Int → xM → Prop) : Prop := ∀ (o1 o5 o7 o8 o9 : Option xV), xGo xft xNf xmt xtr d 37 100 [some (.inr (some 53)), o1, some (.inr (some (a1 + 5))), some (.inl x3), some (.inl x4), o5, some (.inl x6), o7, o8, o9] [.inl s0] (yS e M) (yI e Q)
def C_Te_spell_128 (e : yE) (d : Nat) (a1 : Nat) (x3 x4 x6 x7 s0 : Int) (M : xM) (Q : Int → xM → Prop) : Prop := ∀ (o1 o5 o8 o9 : Option xV), xGo xft xNf xmt xtr d 37 128 [some (.inr (some 53)), o1, some (.inr (some (a1 + 5))), some (.inl x3), some (.inl x4), o5, some (.inl x6), some (.inl x7), o8, o9] [.inl s0] (yS e M) (yI e Q)
def C_Te_spell_147 (e : yE) (d : Nat) (a1 : Nat) (x3 x4 x6 x7 x8 : Int) (M : xM) (Q : Int → xM → Prop) : Prop := ∀ (o1 o5 o9 : Option xV), xGo xft xNf xmt xtr d 37 147 [some (.inr (some 53)), o1, some (.inr (some (a1 + 5))), some (.inl x3), some (.inl x4), o5, some (.inl x6), some (.inl x7), some (.inl x8), o9] [] (yS e M) (yI e Q)
def C_Te_spell_165 (e : yE) (d : Nat) (a1 : Nat) (x3 x4 x6 x7 x8 x9 : Int) (M : xM) (Q : Int → xM → Prop) : Prop := ∀ (o1 o5 : Option xV), xGo xft xNf xmt xtr d 37 165 [some (.inr (some 53)), o1, some (.inr (some (a1 + 5))), some (.inl x3), some (.inl x4), o5, some (.inl x6), some (.inl x7), some (.inl x8), some (.inl x9)] [] (yS e M) (yI e Q)
theorem c_Te_spell_0 {e : yE} {d : Nat} {a1 : Nat} {M : xM} {Q : Int → xM → Prop} (hs : CSh e) (h1 : XSh3 a1 e) (h :
    C_Te_spell_15 e d a1 (0 : Int) ((M a1 0) - (1 : Int)) M Q) : C_Te_spell_0 e d a1 M Q := by
  intro o2 o3 o4 o5 o6 o7 o8 o9
  refine xGo.in ?_
  refine And.intro (ob3 h1) ?_
  refine And.intro (ob3 h1) ?_
  exact h _ _ _ _ _ _
theorem c_Te_spell_15 {e : yE} {d : Nat} {a1 : Nat} {x3 x4 : Int} {M : xM} {Q : Int → xM → Prop} (hs : CSh e) (h1 : XSh3 a1 e) (h :
    (rg x4) ∧ ((x4 < 0 → 
      (C_Te_spell_40 e d a1 x3 (0 : Int) M Q)) ∧ 
    (¬ (x4 < 0) → 
      ((0 ≤ x3 ∧ x3 < 160) ∧ 
      (∀ M1 : xM, M1 = xup M 57 x3 x4 → 
      (C_Te_spell_15 e d a1 (x3 + 1) (x4 + (-1 : Int)) M1 Q)))))) : C_Te_spell_15 e d a1 x3 x4 M Q := by
  intro o1 o5 o6 o7 o8 o9
  refine xGo.in ?_
  refine And.intro (h.1) (And.intro (fun c => ?_) (fun c => ?_))
  · replace h := h.2.1 c
    exact h _ _ _ _ _ _
  · replace h := h.2.2 c
    refine And.intro (cob_53 hs) ?_
    refine And.intro (xi_st (caa_57 hs) (h.1)) ?_
    replace h := h.2
    obtain ⟨M1, hM1⟩ : ∃ z : xM, z = xup M 57 x3 x4 := ⟨_, rfl⟩
    refine xgo_st (e := e) (M := M1) (by subst hM1; rfl) ?_
    replace h := h M1 hM1
    exact h _ _ _ _ _ _
theorem c_Te_spell_40 {e : yE} {d : Nat} {a1 : Nat} {x3 x4 : Int} {M : xM} {Q : Int → xM → Prop} (hs : CSh e) (h1 : XSh3 a1 e) (h :
    (rg x3) ∧ ((x3 ≤ 0 → 
      (Q x4 M)) ∧ 
    (¬ (x3 ≤ 0) → 
      ((rg x4) ∧ (((4000 : Int) < x4 → 
        (Q x4 M)) ∧ 
      (¬ ((4000 : Int) < x4) → 
        ((0 ≤ (x3 + (-1 : Int)) ∧ (x3 + (-1 : Int)) < 160) ∧ 
        ((rg (M 57 (x3 + (-1 : Int)))) ∧ ((0 ≤ (M 57 (x3 + (-1 : Int))) → 
          ((0 ≤ (M 57 (x3 + (-1 : Int))) ∧ (M 57 (x3 + (-1 : Int))) < 360) ∧ 
          (C_Te_spell_82 e d a1 (x3 + (-1 : Int)) x4 (M 57 (x3 + (-1 : Int))) (M (a1 + 7) (M 57 (x3 + (-1 : Int)))) M Q))) ∧ 
        (¬ (0 ≤ (M 57 (x3 + (-1 : Int)))) → 
          (C_Te_spell_82 e d a1 (x3 + (-1 : Int)) x4 (M 57 (x3 + (-1 : Int))) (xxor32 (M 57 (x3 + (-1 : Int))) (-1 : Int)) M Q))))))))))) : C_Te_spell_40 e d a1 x3 x4 M Q := by
  intro o1 o5 o6 o7 o8 o9
  refine xGo.in ?_
  refine And.intro (h.1) (And.intro (fun c => ?_) (fun c => ?_))
  · replace h := h.2.1 c
    exact yI_ret h
  · replace h := h.2.2 c
    refine And.intro (⟨h.1, rg_lit (by decide)⟩) (And.intro (fun c => ?_) (fun c => ?_))
    · replace h := h.2.1 c
      exact yI_ret h
    · replace h := h.2.2 c
      refine And.intro (cob_53 hs) ?_
      refine And.intro (xi_ld (caa_57 hs) (h.1)) ?_
      replace h := h.2
      refine And.intro (h.1) (And.intro (fun c => ?_) (fun c => ?_))
      · replace h := h.2.1 c
        refine And.intro (ob6 (t3 h1)) ?_
        refine And.intro (xi_ld (a6_2 (t3 h1)) (h.1)) ?_
        replace h := h.2
        exact h _ _ _ _ _
      · replace h := h.2.2 c
        exact h _ _ _ _ _
theorem c_Te_spell_82 {e : yE} {d : Nat} {a1 : Nat} {x3 x4 x5 s0 : Int} {M : xM} {Q : Int → xM → Prop} (hs : CSh e) (h1 : XSh3 a1 e) (h :
    (rg x5) ∧ ((0 ≤ x5 → 
      ((0 ≤ x5 ∧ x5 < 360) ∧ 
      (C_Te_spell_100 e d a1 x3 x4 s0 (M 56 x5) M Q))) ∧ 
    (¬ (0 ≤ x5) → 
      (C_Te_spell_100 e d a1 x3 x4 s0 (-1 : Int) M Q)))) : C_Te_spell_82 e d a1 x3 x4 x5 s0 M Q := by
  intro o1 o6 o7 o8 o9
  refine xGo.in ?_
  refine And.intro (h.1) (And.intro (fun c => ?_) (fun c => ?_))
  · replace h := h.2.1 c
    refine And.intro (cob_53 hs) ?_
    refine And.intro (xi_ld (caa_56 hs) (h.1)) ?_
    replace h := h.2
    exact h _ _ _ _ _
  · replace h := h.2.2 c
    exact h _ _ _ _ _
theorem c_Te_spell_100 {e : yE} {d : Nat} {a1 : Nat} {x3 x4 x6 s0 : Int} {M : xM} {Q : Int → xM → Prop} (hs : CSh e) (h1 : XSh3 a1 e) (h :
    (rg s0) ∧ ((¬ s0 = (-1 : Int) → 
      ((0 ≤ s0 ∧ s0 < 120) ∧ 
      (C_Te_spell_128 e d a1 x3 x4 x6 s0 (M (a1 + 14) s0) M Q))) ∧ 
    (¬ (¬ s0 = (-1 : Int)) → 
      ((0 ≤ x6 ∧ x6 < 8) ∧ 
      (C_Te_spell_128 e d a1 x3 x4 x6 s0 (M 7 x6) M Q))))) : C_Te_spell_100 e d a1 x3 x4 x6 s0 M Q := by
  intro o1 o5 o7 o8 o9
  refine xGo.in ?_
  refine And.intro (⟨h.1, rg_lit (by decide)⟩) (And.intro (fun c => ?_) (fun c => ?_))
  · replace h := h.2.1 c
    refine And.intro (ob6 (t3 h1)) ?_
    refine And.intro (xi_ld (a6_9 (t3 h1)) (h.1)) ?_
    replace h := h.2
    exact h _ _ _ _
  · replace h := h.2.2 c
    refine And.intro (cob_53 hs) ?_
    refine And.intro (cob_2 hs) ?_
    refine And.intro (xi_ld (caa_7 hs) (h.1)) ?_
    replace h := h.2
    exact h _ _ _ _
theorem c_Te_spell_128 {e : yE} {d : Nat} {a1 : Nat} {x3 x4 x6 x7 s0 : Int} {M : xM} {Q : Int → xM → Prop} (hs : CSh e) (h1 : XSh3 a1 e) (h :
    (rg x4) ∧ (((4000 : Int) ≤ x4 → 
      (C_Te_spell_147 e d a1 x3 x4 x6 x7 s0 M Q)) ∧ 
    (¬ ((4000 : Int) ≤ x4) → 
      (∃ q1 nq1 : Nat, (M 53 2 = (q1 : Int) ∧ yA e q1 1 nq1) ∧ 
      ((0 ≤ x4 ∧ x4 < (nq1 : Int)) ∧ 
      (∀ M2 : xM, M2 = xup M q1 x4 s0 → 
      (C_Te_spell_147 e d a1 x3 x4 x6 x7 s0 M2 Q))))))) : C_Te_spell_128 e d a1 x3 x4 x6 x7 s0 M Q := by
  intro o1 o5 o8 o9
  refine xGo.in ?_
  refine And.intro (⟨h.1, rg_lit (by decide)⟩) (And.intro (fun c => ?_) (fun c => ?_))
  · replace h := h.2.1 c
    exact h _ _ _
  · replace h := h.2.2 c
    refine And.intro (cob_53 hs) ?_
    obtain ⟨q1, nq1, ⟨eq1, hq1⟩, h⟩ := h
    refine xgo_top (xg3 (a := 4) (j := 2) rfl eq1) ?_
    refine And.intro (xi_st (hq1) (h.1)) ?_
    replace h := h.2
    obtain ⟨M2, hM2⟩ : ∃ z : xM, z = xup M q1 x4 s0 := ⟨_, rfl⟩
    refine xgo_st (e := e) (M := M2) (by subst hM2; rfl) ?_
    replace h := h M2 hM2
    exact h _ _ _
theorem c_Te_spell_147 {e : yE} {d : Nat} {a1 : Nat} {x3 x4 x6 x7 x8 : Int} {M : xM} {Q : Int → xM → Prop} (hs : CSh e) (h1 : XSh3 a1 e) (h :
    C_Ty_partsOf e d x6 x8 M (fun y2 M1 => 
    C_Te_spell_165 e d a1 x3 (x4 + 1) x6 x7 x8 (y2 - (1 : Int)) M1 Q)) : C_Te_spell_147 e d a1 x3 x4 x6 x7 x8 M Q := by
  intro o1 o5 o9
  refine xGo.in ?_
  refine And.intro (cob_53 hs) ?_
  refine And.intro ⟨Nat.le_of_ble_eq_true rfl, Nat.le_of_ble_eq_true rfl, cob_2 hs⟩ ?_
  refine yI_use h (fun y2 M1 h => ?_)
  exact h _ _
theorem c_Te_spell_165 {e : yE} {d : Nat} {a1 : Nat} {x3 x4 x6 x7 x8 x9 : Int} {M : xM} {Q : Int → xM → Prop} (hs : CSh e) (h1 : XSh3 a1 e) (h :
    (rg x9) ∧ ((x9 < 0 → 
      (C_Te_spell_40 e d a1 x3 x4 M Q)) ∧ 
    (¬ (x9 < 0) → 
      ((rg x3) ∧ (((160 : Int) ≤ x3 → 
        (C_Te_spell_40 e d a1 x3 x4 M Q)) ∧ 
      (¬ ((160 : Int) ≤ x3) → 
        ((rg x7) ∧ ((¬ x7 = (-1 : Int) → 
          ((0 ≤ x7 ∧ x7 < 120) ∧ 
          ((0 ≤ x3 ∧ x3 < 160) ∧ 
          (∀ M1 : xM, M1 = xup M 57 x3 ((M (a1 + 16) x7) + x9) → 
          (C_Te_spell_165 e d a1 (x3 + 1) x4 x6 x7 x8 (x9 + (-1 : Int)) M1 Q))))) ∧ 
        (¬ (¬ x7 = (-1 : Int)) → 
          (C_Ty_partTypeOf e d x6 x8 x9 M (fun y3 M2 => 
          (0 ≤ x3 ∧ x3 < 160) ∧ 
          (∀ M4 : xM, M4 = xup M2 57 x3 (xxor32 y3 (-1 : Int)) → 
          (C_Te_spell_165 e d a1 (x3 + 1) x4 x6 x7 x8 (x9 + (-1 : Int)) M4 Q))))))))))))) : C_Te_spell_165 e d a1 x3 x4 x6 x7 x8 x9 M Q := by
  intro o1 o5
  refine xGo.in ?_
  refine And.intro (h.1) (And.intro (fun c => ?_) (fun c => ?_))
  · replace h := h.2.1 c
    exact h _ _ _ _ _ _
  · replace h := h.2.2 c
    refine And.intro (⟨h.1, rg_lit (by decide)⟩) (And.intro (fun c => ?_) (fun c => ?_))
    · replace h := h.2.1 c
      exact h _ _ _ _ _ _
    · replace h := h.2.2 c
      refine And.intro (cob_53 hs) ?_
      refine And.intro (⟨h.1, rg_lit (by decide)⟩) (And.intro (fun c => ?_) (fun c => ?_))
      · replace h := h.2.1 c
        refine And.intro (ob6 (t3 h1)) ?_
        refine And.intro (xi_ld (a6_11 (t3 h1)) (h.1)) ?_
        replace h := h.2
        refine And.intro (xi_st (caa_57 hs) (h.1)) ?_
        replace h := h.2
        obtain ⟨M1, hM1⟩ : ∃ z : xM, z = xup M 57 x3 ((M (a1 + 16) x7) + x9) := ⟨_, rfl⟩
        refine xgo_st (e := e) (M := M1) (by subst hM1; rfl) ?_
        replace h := h M1 hM1
        exact h _ _
      · replace h := h.2.2 c
        refine And.intro (cob_53 hs) ?_
        refine And.intro ⟨Nat.le_of_ble_eq_true rfl, Nat.le_of_ble_eq_true rfl, cob_2 hs⟩ ?_
        refine yI_use h (fun y3 M2 h => ?_)
        refine And.intro (xi_st (caa_57 hs) (h.1)) ?_
        replace h := h.2
        obtain ⟨M4, hM4⟩ : ∃ z : xM, z = xup M2 57 x3 (xxor32 y3 (-1 : Int)) := ⟨_, rfl⟩
        refine xgo_st (e := e) (M := M4) (by subst hM4; rfl) ?_
        replace h := h M4 hM4
        exact h _ _
theorem c_Te_spell {e : yE} {d : Nat} {a1 : Nat} {M : xM} {Q : Int → xM → Prop} (h : C_Te_spell_0 e d a1 M Q) : C_Te_spell e (d + 1) a1 M Q := h _ _ _ _ _ _ _ _
def C_Tm_has_0 (e : yE) (d : Nat) (k : Nat) (x1 : Int) (M : xM) (Q : Int → xM → Prop) : Prop := xGo xft xNf xmt xtr d 39 0 [some (.inr (some k)), some (.inl x1)] [] (yS e M) (yI e Q)
theorem c_Tm_has_0 {e : yE} {d : Nat} {k : Nat} {x1 : Int} {M : xM} {Q : Int → xM → Prop} (hs : CSh e) (hk : XSh5 k e) (h :
    (rg x1) ∧ ((x1 < 0 → 
      (Q (0 : Int) M)) ∧ 
    (¬ (x1 < 0) → 
      ((rg x1 ∧ rg (M k 1)) ∧ (((M k 1) ≤ x1 → 
        (Q (0 : Int) M)) ∧ 
      (¬ ((M k 1) ≤ x1) → 
        (Q (1 : Int) M))))))) : C_Tm_has_0 e d k x1 M Q := by
  refine xGo.in ?_
  refine And.intro (h.1) (And.intro (fun c => ?_) (fun c => ?_))
  · replace h := h.2.1 c
    exact And.intro (by decide) (yI_ret h)
  · replace h := h.2.2 c
    refine And.intro (ob5 hk) ?_
    refine And.intro (⟨h.1.1, h.1.2⟩) (And.intro (fun c => ?_) (fun c => ?_))
    · replace h := h.2.1 c
      exact And.intro (by decide) (yI_ret h)
    · replace h := h.2.2 c
      exact And.intro (by decide) (yI_ret h)
theorem c_Tm_has {e : yE} {d : Nat} {k : Nat} {x1 : Int} {M : xM} {Q : Int → xM → Prop} (h : C_Tm_has_0 e d k x1 M Q) : C_Tm_has e (d + 1) k x1 M Q := h
def C_Tm_isOf_0 (e : yE) (d : Nat) (k : Nat) (x1 x2 : Int) (M : xM) (Q : Int → xM → Prop) : Prop := xGo xft xNf xmt xtr d 40 0 [some (.inr (some k)), some (.inl x1), some (.inl x2)] [] (yS e M) (yI e Q)
theorem c_Tm_isOf_0 {e : yE} {d : Nat} {k : Nat} {x1 x2 : Int} {M : xM} {Q : Int → xM → Prop} (hs : CSh e) (hk : XSh5 k e) (h :
    C_Tm_has e d k x1 M (fun y2 M1 => 
    (rg y2) ∧ ((y2 = 0 → 
      (Q (0 : Int) M1)) ∧ 
    (¬ (y2 = 0) → 
      ((0 ≤ x1 ∧ x1 < 300) ∧ 
      ((rg (M1 (k + 2) x1) ∧ rg x2) ∧ ((¬ (M1 (k + 2) x1) = x2 → 
        (Q (0 : Int) M1)) ∧ 
      (¬ (¬ (M1 (k + 2) x1) = x2) → 
        (Q (1 : Int) M1))))))))) : C_Tm_isOf_0 e d k x1 x2 M Q := by
  refine xGo.in ?_
  refine And.intro ⟨Nat.le_of_ble_eq_true rfl, Nat.le_of_ble_eq_true rfl, ob5 hk⟩ ?_
  refine yI_use h (fun y2 M1 h => ?_)
  refine And.intro (h.1) (And.intro (fun c => ?_) (fun c => ?_))
  · replace h := h.2.1 c
    exact And.intro (by decide) (yI_ret h)
  · replace h := h.2.2 c
    refine And.intro (ob5 hk) ?_
    refine And.intro (xi_ld (a5_2 hk) (h.1)) ?_
    replace h := h.2
    refine And.intro (⟨h.1.1, h.1.2⟩) (And.intro (fun c => ?_) (fun c => ?_))
    · replace h := h.2.1 c
      exact And.intro (by decide) (yI_ret h)
    · replace h := h.2.2 c
      exact And.intro (by decide) (yI_ret h)
theorem c_Tm_isOf {e : yE} {d : Nat} {k : Nat} {x1 : Int} {x2 : Int} {M : xM} {Q : Int → xM → Prop} (h : C_Tm_isOf_0 e d k x1 x2 M Q) : C_Tm_isOf e (d + 1) k x1 x2 M Q := h
def C_Tm_areOf_0 (e : yE) (d : Nat) (k : Nat) (a1 : Nat) (n1 : Nat) (a2 : Nat) (n2 : Nat) (x3 : Int) (M : xM) (Q : Int → xM → Prop) : Prop := ∀ (o4 : Option xV), xGo xft xNf xmt xtr d 41 0 [some (.inr (some k)), some (.inr (some a1)), some (.inr (some a2)), some (.inl x3), o4] [] (yS e M) (yI e Q)
def C_Tm_areOf_3 (e : yE) (d : Nat) (k : Nat) (a1 : Nat) (n1 : Nat) (a2 : Nat) (n2 : Nat) (x3 x4 : Int) (M : xM) (Q : Int → xM → Prop) : Prop := xGo xft xNf xmt xtr d 41 3 [some (.inr (some k)), some (.inr (some a1)), some (.inr (some a2)), some (.inl x3), some (.inl x4)] [] (yS e M) (yI e Q)
theorem c_Tm_areOf_0 {e : yE} {d : Nat} {k : Nat} {a1 : Nat} {n1 : Nat} {a2 : Nat} {n2 : Nat} {x3 : Int} {M : xM} {Q : Int → xM → Prop} (hs : CSh e) (hk : XSh5 k e) (h1 : yA e a1 1 n1) (h2 : yA e a2 1 n2) (h :
    C_Tm_areOf_3 e d k a1 n1 a2 n2 x3 (0 : Int) M Q) : C_Tm_areOf_0 e d k a1 n1 a2 n2 x3 M Q := by
  intro o4
  refine xGo.in ?_
  exact h
theorem c_Tm_areOf_3 {e : yE} {d : Nat} {k : Nat} {a1 : Nat} {n1 : Nat} {a2 : Nat} {n2 : Nat} {x3 x4 : Int} {M : xM} {Q : Int → xM → Prop} (hs : CSh e) (hk : XSh5 k e) (h1 : yA e a1 1 n1) (h2 : yA e a2 1 n2) (h :
    (rg x4 ∧ rg x3) ∧ ((x3 ≤ x4 → 
      (Q (1 : Int) M)) ∧ 
    (¬ (x3 ≤ x4) → 
      ((0 ≤ x4 ∧ x4 < (n2 : Int)) ∧ 
      ((0 ≤ x4 ∧ x4 < (n1 : Int)) ∧ 
      (C_Tm_isOf e d k (M a2 x4) (M a1 x4) M (fun y2 M1 => 
      (rg y2) ∧ ((¬ y2 = 0 → 
        (C_Tm_areOf_3 e d k a1 n1 a2 n2 x3 (x4 + 1) M1 Q)) ∧ 
      (¬ (¬ y2 = 0) → 
        (Q (0 : Int) M1)))))))))) : C_Tm_areOf_3 e d k a1 n1 a2 n2 x3 x4 M Q := by
  refine xGo.in ?_
  refine And.intro (⟨h.1.1, h.1.2⟩) (And.intro (fun c => ?_) (fun c => ?_))
  · replace h := h.2.1 c
    exact And.intro (by decide) (yI_ret h)
  · replace h := h.2.2 c
    refine And.intro (xi_ld (h2) (h.1)) ?_
    replace h := h.2
    refine And.intro (xi_ld (h1) (h.1)) ?_
    replace h := h.2
    refine And.intro ⟨Nat.le_of_ble_eq_true rfl, Nat.le_of_ble_eq_true rfl, ob5 hk⟩ ?_
    refine yI_use h (fun y2 M1 h => ?_)
    refine And.intro (h.1) (And.intro (fun c => ?_) (fun c => ?_))
    · replace h := h.2.1 c
      exact h
    · replace h := h.2.2 c
      exact And.intro (by decide) (yI_ret h)
theorem c_Tm_areOf {e : yE} {d : Nat} {k : Nat} {a1 : Nat} {n1 : Nat} {a2 : Nat} {n2 : Nat} {x3 : Int} {M : xM} {Q : Int → xM → Prop} (h : C_Tm_areOf_0 e d k a1 n1 a2 n2 x3 M Q) : C_Tm_areOf e (d + 1) k a1 n1 a2 n2 x3 M Q := h _
def C_Tm_areAlike_0 (e : yE) (d : Nat) (k : Nat) (x1 x2 : Int) (M : xM) (Q : Int → xM → Prop) : Prop := xGo xft xNf xmt xtr d 42 0 [some (.inr (some k)), some (.inl x1), some (.inl x2)] [] (yS e M) (yI e Q)
theorem c_Tm_areAlike_0 {e : yE} {d : Nat} {k : Nat} {x1 x2 : Int} {M : xM} {Q : Int → xM → Prop} (hs : CSh e) (hk : XSh5 k e) (h :
    (0 ≤ x1 ∧ x1 < 300) ∧ 
    ((0 ≤ x2 ∧ x2 < 300) ∧ 
    ((rg (M (k + 2) x1) ∧ rg (M (k + 2) x2)) ∧ ((¬ (M (k + 2) x1) = (M (k + 2) x2) → 
      (Q (0 : Int) M)) ∧ 
    (¬ (¬ (M (k + 2) x1) = (M (k + 2) x2)) → 
      ((0 ≤ x1 ∧ x1 < 300) ∧ 
      ((0 ≤ x2 ∧ x2 < 300) ∧ 
      ((rg (M (k + 7) x1) ∧ rg (M (k + 7) x2)) ∧ ((¬ (M (k + 7) x1) = (M (k + 7) x2) → 
        (Q (0 : Int) M)) ∧ 
      (¬ (¬ (M (k + 7) x1) = (M (k + 7) x2)) → 
        (Q (1 : Int) M))))))))))) : C_Tm_areAlike_0 e d k x1 x2 M Q := by
  refine xGo.in ?_
  refine And.intro (ob5 hk) ?_
  refine And.intro (xi_ld (a5_2 hk) (h.1)) ?_
  replace h := h.2
  refine And.intro (ob5 hk) ?_
  refine And.intro (xi_ld (a5_2 hk) (h.1)) ?_
  replace h := h.2
  refine And.intro (⟨h.1.1, h.1.2⟩) (And.intro (fun c => ?_) (fun c => ?_))
  · replace h := h.2.1 c
    exact And.intro (by decide) (yI_ret h)
  · replace h := h.2.2 c
    refine And.intro (ob5 hk) ?_
    refine And.intro (xi_ld (a5_7 hk) (h.1)) ?_
    replace h := h.2
    refine And.intro (ob5 hk) ?_
    refine And.intro (xi_ld (a5_7 hk) (h.1)) ?_
    replace h := h.2
    refine And.intro (⟨h.1.1, h.1.2⟩) (And.intro (fun c => ?_) (fun c => ?_))
    · replace h := h.2.1 c
      exact And.intro (by decide) (yI_ret h)
    · replace h := h.2.2 c
      exact And.intro (by decide) (yI_ret h)
theorem c_Tm_areAlike {e : yE} {d : Nat} {k : Nat} {x1 : Int} {x2 : Int} {M : xM} {Q : Int → xM → Prop} (h : C_Tm_areAlike_0 e d k x1 x2 M Q) : C_Tm_areAlike e (d + 1) k x1 x2 M Q := h
def C_Tm_haveNamesApart_0 (e : yE) (d : Nat) (k : Nat) (a1 : Nat) (n1 : Nat) (x2 : Int) (M : xM) (Q : Int → xM → Prop) : Prop := ∀ (o3 o4 : Option xV), xGo xft xNf xmt xtr d 43 0 [some (.inr (some k)), some (.inr (some a1)), some (.inl x2), o3, o4] [] (yS e M) (yI e Q)
def C_Tm_haveNamesApart_5 (e : yE) (d : Nat) (k : Nat) (a1 : Nat) (n1 : Nat) (x2 x3 x4 : Int) (M : xM) (Q : Int → xM → Prop) : Prop := xGo xft xNf xmt xtr d 43 5 [some (.inr (some k)), some (.inr (some a1)), some (.inl x2), some (.inl x3), some (.inl x4)] [] (yS e M) (yI e Q)
theorem c_Tm_haveNamesApart_0 {e : yE} {d : Nat} {k : Nat} {a1 : Nat} {n1 : Nat} {x2 : Int} {M : xM} {Q : Int → xM → Prop} (hs : CSh e) (hk : XSh5 k e) (h1 : yA e a1 1 n1) (h :
    C_Tm_haveNamesApart_5 e d k a1 n1 x2 (0 : Int) (0 : Int) M Q) : C_Tm_haveNamesApart_0 e d k a1 n1 x2 M Q := by
  intro o3 o4
  refine xGo.in ?_
  exact h
theorem c_Tm_haveNamesApart_5 {e : yE} {d : Nat} {k : Nat} {a1 : Nat} {n1 : Nat} {x2 x3 x4 : Int} {M : xM} {Q : Int → xM → Prop} (hs : CSh e) (hk : XSh5 k e) (h1 : yA e a1 1 n1) (h :
    (rg x4 ∧ rg x2) ∧ ((x2 ≤ x4 → 
      (Q (1 : Int) M)) ∧ 
    (¬ (x2 ≤ x4) → 
      ((0 ≤ x4 ∧ x4 < (n1 : Int)) ∧ 
      ((0 ≤ (M a1 x4) ∧ (M a1 x4) < 300) ∧ 
      ((rg (xand32 x3 (M (k + 7) (M a1 x4)))) ∧ (((xand32 x3 (M (k + 7) (M a1 x4))) = 0 → 
        ((0 ≤ x4 ∧ x4 < (n1 : Int)) ∧ 
        ((0 ≤ (M a1 x4) ∧ (M a1 x4) < 300) ∧ 
        (C_Tm_haveNamesApart_5 e d k a1 n1 x2 (xor32 x3 (M (k + 7) (M a1 x4))) (x4 + 1) M Q)))) ∧ 
      (¬ ((xand32 x3 (M (k + 7) (M a1 x4))) = 0) → 
        (Q (0 : Int) M))))))))) : C_Tm_haveNamesApart_5 e d k a1 n1 x2 x3 x4 M Q := by
  refine xGo.in ?_
  refine And.intro (⟨h.1.1, h.1.2⟩) (And.intro (fun c => ?_) (fun c => ?_))
  · replace h := h.2.1 c
    exact And.intro (by decide) (yI_ret h)
  · replace h := h.2.2 c
    refine And.intro (ob5 hk) ?_
    refine And.intro (xi_ld (h1) (h.1)) ?_
    replace h := h.2
    refine And.intro (xi_ld (a5_7 hk) (h.1)) ?_
    replace h := h.2
    refine And.intro (h.1) (And.intro (fun c => ?_) (fun c => ?_))
    · replace h := h.2.1 c
      refine And.intro (ob5 hk) ?_
      refine And.intro (xi_ld (h1) (h.1)) ?_
      replace h := h.2
      refine And.intro (xi_ld (a5_7 hk) (h.1)) ?_
      replace h := h.2
      exact h
    · replace h := h.2.2 c
      exact And.intro (by decide) (yI_ret h)
theorem c_Tm_haveNamesApart {e : yE} {d : Nat} {k : Nat} {a1 : Nat} {n1 : Nat} {x2 : Int} {M : xM} {Q : Int → xM → Prop} (h : C_Tm_haveNamesApart_0 e d k a1 n1 x2 M Q) : C_Tm_haveNamesApart e (d + 1) k a1 n1 x2 M Q := h _ _
def C_Tm_partOf_0 (e : yE) (d : Nat) (k : Nat) (x1 x2 : Int) (M : xM) (Q : Int → xM → Prop) : Prop := xGo xft xNf xmt xtr d 44 0 [some (.inr (some k)), some (.inl x1), some (.inl x2)] [] (yS e M) (yI e Q)
theorem c_Tm_partOf_0 {e : yE} {d : Nat} {k : Nat} {x1 x2 : Int} {M : xM} {Q : Int → xM → Prop} (hs : CSh e) (hk : XSh5 k e) (h :
    (0 ≤ ((x1 * (3 : Int)) + x2) ∧ ((x1 * (3 : Int)) + x2) < 900) ∧ 
    (Q (M (k + 6) ((x1 * (3 : Int)) + x2)) M)) : C_Tm_partOf_0 e d k x1 x2 M Q := by
  refine xGo.in ?_
  refine And.intro (ob5 hk) ?_
  refine And.intro (xi_ld (a5_6 hk) (h.1)) ?_
  replace h := h.2
  exact yI_ret h
theorem c_Tm_partOf {e : yE} {d : Nat} {k : Nat} {x1 : Int} {x2 : Int} {M : xM} {Q : Int → xM → Prop} (h : C_Tm_partOf_0 e d k x1 x2 M Q) : C_Tm_partOf e (d + 1) k x1 x2 M Q := h
def C_Tm_add_0 (e : yE) (d : Nat) (k : Nat) (a4 : Nat) (n4 : Nat) (x1 x2 x3 x5 : Int) (M : xM) (Q : Int → xM → Prop) : Prop := ∀ (o6 o7 o8 : Option xV), xGo xft xNf xmt xtr d 45 0 [some (.inr (some k)), some (.inl x1), some (.inl x2), some (.inl x3), some (.inr (some a4)), some (.inl x5), o6, o7, o8] [] (yS e M) (yI e Q)
def C_Tm_add_6 (e : yE) (d : Nat) (k : Nat) (a4 : Nat) (n4 : Nat) (x1 x2 x3 x5 x6 x7 : Int) (M : xM) (Q : Int → xM → Prop) : Prop := ∀ (o8 : Option xV), xGo xft xNf xmt xtr d 45 6 [some (.inr (some k)), some (.inl x1), some (.inl x2), some (.inl x3), some (.inr (some a4)), some (.inl x5), some (.inl x6), some (.inl x7), o8] [] (yS e M) (yI e Q)
def C_Tm_add_72 (e : yE) (d : Nat) (k : Nat) (a4 : Nat) (n4 : Nat) (x1 x2 x3 x5 x6 s0 : Int) (M : xM) (Q : Int → xM → Prop) : Prop := ∀ (o7 o8 : Option xV), xGo xft xNf xmt xtr d 45 72 [some (.inr (some k)), some (.inl x1), some (.inl x2), some (.inl x3), some (.inr (some a4)), some (.inl x5), some (.inl x6), o7, o8] [.inl s0] (yS e M) (yI e Q)
def C_Tm_add_155 (e : yE) (d : Nat) (k : Nat) (a4 : Nat) (n4 : Nat) (x1 x5 s1 s2 : Int) (M : xM) (Q : Int → xM → Prop) : Prop := ∀ (o2 o3 o6 o7 o8 : Option xV), xGo xft xNf xmt xtr d 45 155 [some (.inr (some k)), some (.inl x1), o2, o3, some (.inr (some a4)), some (.inl x5), o6, o7, o8] [.inl s2, .inl s1, .inr (some (k + 8))] (yS e M) (yI e Q)
def C_Tm_add_178 (e : yE) (d : Nat) (k : Nat) (a4 : Nat) (n4 : Nat) (x5 x8 : Int) (M : xM) (Q : Int → xM → Prop) : Prop := ∀ (o1 o2 o3 o6 o7 : Option xV), xGo xft xNf xmt xtr d 45 178 [some (.inr (some k)), o1, o2, o3, some (.inr (some a4)), some (.inl x5), o6, o7, some (.inl x8)] [] (yS e M) (yI e Q)
theorem c_Tm_add_0 {e : yE} {d : Nat} {k : Nat} {a4 : Nat} {n4 : Nat} {x1 x2 x3 x5 : Int} {M : xM} {Q : Int → xM → Prop} (hs : CSh e) (hk : XSh5 k e) (h4 : yA e a4 1 n4) (h :
    C_Tm_add_6 e d k a4 n4 x1 x2 x3 x5 (1 : Int) (0 : Int) M Q) : C_Tm_add_0 e d k a4 n4 x1 x2 x3 x5 M Q := by
  intro o6 o7 o8
  refine xGo.in ?_
  exact h _
theorem c_Tm_add_6 {e : yE} {d : Nat} {k : Nat} {a4 : Nat} {n4 : Nat} {x1 x2 x3 x5 x6 x7 : Int} {M : xM} {Q : Int → xM → Prop} (hs : CSh e) (hk : XSh5 k e) (h4 : yA e a4 1 n4) (h :
    (rg x7 ∧ rg x5) ∧ ((x5 ≤ x7 → 
      ((rg (M k 1)) ∧ (((M k 1) = (300 : Int) → 
        (Q (-1 : Int) M)) ∧ 
      (¬ ((M k 1) = (300 : Int)) → 
        ((rg x6 ∧ rg (M k 0)) ∧ ((x6 ≤ (M k 0) → 
          ((rg x1) ∧ ((x1 = (1 : Int) → 
            (C_Tm_add_72 e d k a4 n4 x1 x2 x3 x5 x6 (xshl32 (1 : Int) x3) M Q)) ∧ 
          (¬ (x1 = (1 : Int)) → 
            ((rg x1) ∧ ((¬ x1 = (2 : Int) → 
              (C_Tm_add_72 e d k a4 n4 x1 x2 x3 x5 x6 (0 : Int) M Q)) ∧ 
            (¬ (¬ x1 = (2 : Int)) → 
              (C_Tm_add_72 e d k a4 n4 x1 x2 x3 x5 x6 (xshl32 (1 : Int) x3) M Q)))))))) ∧ 
        (¬ (x6 ≤ (M k 0)) → 
          (Q (-1 : Int) M)))))))) ∧ 
    (¬ (x5 ≤ x7) → 
      ((0 ≤ x7 ∧ x7 < (n4 : Int)) ∧ 
      ((0 ≤ (M a4 x7) ∧ (M a4 x7) < 300) ∧ 
      (C_Tm_add_6 e d k a4 n4 x1 x2 x3 x5 (x6 + (M (k + 4) (M a4 x7))) (x7 + 1) M Q)))))) : C_Tm_add_6 e d k a4 n4 x1 x2 x3 x5 x6 x7 M Q := by
  intro o8
  refine xGo.in ?_
  refine And.intro (⟨h.1.1, h.1.2⟩) (And.intro (fun c => ?_) (fun c => ?_))
  · replace h := h.2.1 c
    refine And.intro (ob5 hk) ?_
    refine And.intro (⟨h.1, rg_lit (by decide)⟩) (And.intro (fun c => ?_) (fun c => ?_))
    · replace h := h.2.1 c
      exact yI_ret h
    · replace h := h.2.2 c
      refine And.intro (ob5 hk) ?_
      refine And.intro (⟨h.1.1, h.1.2⟩) (And.intro (fun c => ?_) (fun c => ?_))
      · replace h := h.2.1 c
        refine And.intro (⟨h.1, rg_lit (by decide)⟩) (And.intro (fun c => ?_) (fun c => ?_))
        · replace h := h.2.1 c
          exact h _ _
        · replace h := h.2.2 c
          refine And.intro (⟨h.1, rg_lit (by decide)⟩) (And.intro (fun c => ?_) (fun c => ?_))
          · replace h := h.2.1 c
            exact h _ _
          · replace h := h.2.2 c
            exact h _ _
      · replace h := h.2.2 c
        exact yI_ret h
  · replace h := h.2.2 c
    refine And.intro (ob5 hk) ?_
    refine And.intro (xi_ld (h4) (h.1)) ?_
    replace h := h.2
    refine And.intro (xi_ld (a5_4 hk) (h.1)) ?_
    replace h := h.2
    exact h _
theorem c_Tm_add_72 {e : yE} {d : Nat} {k : Nat} {a4 : Nat} {n4 : Nat} {x1 x2 x3 x5 x6 s0 : Int} {M : xM} {Q : Int → xM → Prop} (hs : CSh e) (hk : XSh5 k e) (h4 : yA e a4 1 n4) (h :
    (0 ≤ (M k 1) ∧ (M k 1) < 300) ∧ 
    (∀ M1 : xM, M1 = xup M (k + 1) (M k 1) x1 → 
    ((0 ≤ (M1 k 1) ∧ (M1 k 1) < 300) ∧ 
    (∀ M2 : xM, M2 = xup M1 (k + 2) (M1 k 1) x2 → 
    ((0 ≤ (M2 k 1) ∧ (M2 k 1) < 300) ∧ 
    (∀ M3 : xM, M3 = xup M2 (k + 3) (M2 k 1) x3 → 
    ((0 ≤ (M3 k 1) ∧ (M3 k 1) < 300) ∧ 
    (∀ M4 : xM, M4 = xup M3 (k + 4) (M3 k 1) x6 → 
    ((0 ≤ (M4 k 1) ∧ (M4 k 1) < 300) ∧ 
    (∀ M5 : xM, M5 = xup M4 (k + 5) (M4 k 1) x5 → 
    ((0 ≤ (M5 k 1) ∧ (M5 k 1) < 300) ∧ 
    (∀ M6 : xM, M6 = xup M5 (k + 7) (M5 k 1) s0 → 
    ((rg x2) ∧ ((¬ x2 = 0 → 
      (C_Tm_add_155 e d k a4 n4 x1 x5 (M6 k 1) (0 : Int) M6 Q)) ∧ 
    (¬ (¬ x2 = 0) → 
      (C_Tm_add_155 e d k a4 n4 x1 x5 (M6 k 1) s0 M6 Q)))))))))))))))) : C_Tm_add_72 e d k a4 n4 x1 x2 x3 x5 x6 s0 M Q := by
  intro o7 o8
  refine xGo.in ?_
  refine And.intro (ob5 hk) ?_
  refine And.intro (ob5 hk) ?_
  refine And.intro (xi_st (a5_1 hk) (h.1)) ?_
  replace h := h.2
  obtain ⟨M1, hM1⟩ : ∃ z : xM, z = xup M (k + 1) (M k 1) x1 := ⟨_, rfl⟩
  refine xgo_st (e := e) (M := M1) (by subst hM1; rfl) ?_
  replace h := h M1 hM1
  refine And.intro (ob5 hk) ?_
  refine And.intro (ob5 hk) ?_
  refine And.intro (xi_st (a5_2 hk) (h.1)) ?_
  replace h := h.2
  obtain ⟨M2, hM2⟩ : ∃ z : xM, z = xup M1 (k + 2) (M1 k 1) x2 := ⟨_, rfl⟩
  refine xgo_st (e := e) (M := M2) (by subst hM2; rfl) ?_
  replace h := h M2 hM2
  refine And.intro (ob5 hk) ?_
  refine And.intro (ob5 hk) ?_
  refine And.intro (xi_st (a5_3 hk) (h.1)) ?_
  replace h := h.2
  obtain ⟨M3, hM3⟩ : ∃ z : xM, z = xup M2 (k + 3) (M2 k 1) x3 := ⟨_, rfl⟩
  refine xgo_st (e := e) (M := M3) (by subst hM3; rfl) ?_
  replace h := h M3 hM3
  refine And.intro (ob5 hk) ?_
  refine And.intro (ob5 hk) ?_
  refine And.intro (xi_st (a5_4 hk) (h.1)) ?_
  replace h := h.2
  obtain ⟨M4, hM4⟩ : ∃ z : xM, z = xup M3 (k + 4) (M3 k 1) x6 := ⟨_, rfl⟩
  refine xgo_st (e := e) (M := M4) (by subst hM4; rfl) ?_
  replace h := h M4 hM4
  refine And.intro (ob5 hk) ?_
  refine And.intro (ob5 hk) ?_
  refine And.intro (xi_st (a5_5 hk) (h.1)) ?_
  replace h := h.2
  obtain ⟨M5, hM5⟩ : ∃ z : xM, z = xup M4 (k + 5) (M4 k 1) x5 := ⟨_, rfl⟩
  refine xgo_st (e := e) (M := M5) (by subst hM5; rfl) ?_
  replace h := h M5 hM5
  refine And.intro (ob5 hk) ?_
  refine And.intro (ob5 hk) ?_
  refine And.intro (xi_st (a5_7 hk) (h.1)) ?_
  replace h := h.2
  obtain ⟨M6, hM6⟩ : ∃ z : xM, z = xup M5 (k + 7) (M5 k 1) s0 := ⟨_, rfl⟩
  refine xgo_st (e := e) (M := M6) (by subst hM6; rfl) ?_
  replace h := h M6 hM6
  refine And.intro (ob5 hk) ?_
  refine And.intro (ob5 hk) ?_
  refine And.intro (h.1) (And.intro (fun c => ?_) (fun c => ?_))
  · replace h := h.2.1 c
    exact h _ _ _ _ _
  · replace h := h.2.2 c
    exact h _ _ _ _ _
theorem c_Tm_add_155 {e : yE} {d : Nat} {k : Nat} {a4 : Nat} {n4 : Nat} {x1 x5 s1 s2 : Int} {M : xM} {Q : Int → xM → Prop} (hs : CSh e) (hk : XSh5 k e) (h4 : yA e a4 1 n4) (h :
    (0 ≤ s1 ∧ s1 < 300) ∧ 
    (∀ M1 : xM, M1 = xup M (k + 8) s1 s2 → 
    ((rg x1) ∧ ((¬ x1 = (5 : Int) → 
      ((0 ≤ (M1 k 1) ∧ (M1 k 1) < 300) ∧ 
      (∀ M2 : xM, M2 = xup M1 (k + 9) (M1 k 1) (0 : Int) → 
      (C_Tm_add_178 e d k a4 n4 x5 (0 : Int) M2 Q)))) ∧ 
    (¬ (¬ x1 = (5 : Int)) → 
      ((0 ≤ (M1 k 1) ∧ (M1 k 1) < 300) ∧ 
      (∀ M3 : xM, M3 = xup M1 (k + 9) (M1 k 1) (1 : Int) → 
      (C_Tm_add_178 e d k a4 n4 x5 (0 : Int) M3 Q)))))))) : C_Tm_add_155 e d k a4 n4 x1 x5 s1 s2 M Q := by
  intro o2 o3 o6 o7 o8
  refine xGo.in ?_
  refine And.intro (xi_st (a5_8 hk) (h.1)) ?_
  replace h := h.2
  obtain ⟨M1, hM1⟩ : ∃ z : xM, z = xup M (k + 8) s1 s2 := ⟨_, rfl⟩
  refine xgo_st (e := e) (M := M1) (by subst hM1; rfl) ?_
  replace h := h M1 hM1
  refine And.intro (ob5 hk) ?_
  refine And.intro (ob5 hk) ?_
  refine And.intro (⟨h.1, rg_lit (by decide)⟩) (And.intro (fun c => ?_) (fun c => ?_))
  · replace h := h.2.1 c
    refine And.intro (xi_stv (a5_9 hk) (h.1) (by decide)) ?_
    replace h := h.2
    obtain ⟨M2, hM2⟩ : ∃ z : xM, z = xup M1 (k + 9) (M1 k 1) (0 : Int) := ⟨_, rfl⟩
    refine xgo_st (e := e) (M := M2) (by subst hM2; rfl) ?_
    replace h := h M2 hM2
    exact h _ _ _ _ _
  · replace h := h.2.2 c
    refine And.intro (xi_stv (a5_9 hk) (h.1) (by decide)) ?_
    replace h := h.2
    obtain ⟨M3, hM3⟩ : ∃ z : xM, z = xup M1 (k + 9) (M1 k 1) (1 : Int) := ⟨_, rfl⟩
    refine xgo_st (e := e) (M := M3) (by subst hM3; rfl) ?_
    replace h := h M3 hM3
    exact h _ _ _ _ _
theorem c_Tm_add_178 {e : yE} {d : Nat} {k : Nat} {a4 : Nat} {n4 : Nat} {x5 x8 : Int} {M : xM} {Q : Int → xM → Prop} (hs : CSh e) (hk : XSh5 k e) (h4 : yA e a4 1 n4) (h :
    (rg x8 ∧ rg x5) ∧ ((x5 ≤ x8 → 
      (∀ M1 : xM, M1 = xup M k 1 ((M k 1) + (1 : Int)) → 
      (Q ((M1 k 1) - (1 : Int)) M1))) ∧ 
    (¬ (x5 ≤ x8) → 
      ((0 ≤ x8 ∧ x8 < (n4 : Int)) ∧ 
      (C_Tm_join e d k x8 (M a4 x8) M (fun M2 => 
      C_Tm_add_178 e d k a4 n4 x5 (x8 + 1) M2 Q)))))) : C_Tm_add_178 e d k a4 n4 x5 x8 M Q := by
  intro o1 o2 o3 o6 o7
  refine xGo.in ?_
  refine And.intro (⟨h.1.1, h.1.2⟩) (And.intro (fun c => ?_) (fun c => ?_))
  · replace h := h.2.1 c
    refine And.intro (ob5 hk) ?_
    refine And.intro (ob5 hk) ?_
    obtain ⟨M1, hM1⟩ : ∃ z : xM, z = xup M k 1 ((M k 1) + (1 : Int)) := ⟨_, rfl⟩
    refine xgo_st (e := e) (M := M1) (by subst hM1; rfl) ?_
    replace h := h M1 hM1
    refine And.intro (ob5 hk) ?_
    exact yI_ret h
  · replace h := h.2.2 c
    refine And.intro (xi_ld (h4) (h.1)) ?_
    replace h := h.2
    refine And.intro ⟨Nat.le_of_ble_eq_true rfl, Nat.le_of_ble_eq_true rfl, ob5 hk⟩ ?_
    refine yV_use h (fun _ M2 h => ?_)
    exact h _ _ _ _ _
theorem c_Tm_add {e : yE} {d : Nat} {k : Nat} {x1 : Int} {x2 : Int} {x3 : Int} {a4 : Nat} {n4 : Nat} {x5 : Int} {M : xM} {Q : Int → xM → Prop} (h : C_Tm_add_0 e d k a4 n4 x1 x2 x3 x5 M Q) : C_Tm_add e (d + 1) k x1 x2 x3 a4 n4 x5 M Q := h _ _ _
def C_Tm_join_0 (e : yE) (d : Nat) (k : Nat) (x1 x2 : Int) (M : xM) (Q : xM → Prop) : Prop := xGo xft xNf xmt xtr d 46 0 [some (.inr (some k)), some (.inl x1), some (.inl x2)] [] (yS e M) (yV e Q)
theorem c_Tm_join_0 {e : yE} {d : Nat} {k : Nat} {x1 x2 : Int} {M : xM} {Q : xM → Prop} (hs : CSh e) (hk : XSh5 k e) (h :
    (0 ≤ (((M k 1) * (3 : Int)) + x1) ∧ (((M k 1) * (3 : Int)) + x1) < 900) ∧ 
    (∀ M1 : xM, M1 = xup M (k + 6) (((M k 1) * (3 : Int)) + x1) x2 → 
    ((0 ≤ (M1 k 1) ∧ (M1 k 1) < 300) ∧ 
    ((0 ≤ x2 ∧ x2 < 300) ∧ 
    ((0 ≤ (M1 k 1) ∧ (M1 k 1) < 300) ∧ 
    (∀ M2 : xM, M2 = xup M1 (k + 7) (M1 k 1) (xor32 (M1 (k + 7) (M1 k 1)) (M1 (k + 7) x2)) → 
    ((0 ≤ (M2 k 1) ∧ (M2 k 1) < 300) ∧ 
    ((0 ≤ x2 ∧ x2 < 300) ∧ 
    ((0 ≤ (M2 k 1) ∧ (M2 k 1) < 300) ∧ 
    (∀ M3 : xM, M3 = xup M2 (k + 8) (M2 k 1) (xor32 (M2 (k + 8) (M2 k 1)) (M2 (k + 8) x2)) → 
    ((0 ≤ (M3 k 1) ∧ (M3 k 1) < 300) ∧ 
    ((rg (M3 (k + 9) (M3 k 1))) ∧ ((¬ (M3 (k + 9) (M3 k 1)) = 0 → 
      ((0 ≤ (M3 k 1) ∧ (M3 k 1) < 300) ∧ 
      (∀ M4 : xM, M4 = xup M3 (k + 9) (M3 k 1) (1 : Int) → 
      (Q M4)))) ∧ 
    (¬ (¬ (M3 (k + 9) (M3 k 1)) = 0) → 
      ((0 ≤ x2 ∧ x2 < 300) ∧ 
      ((rg (M3 (k + 9) x2)) ∧ (((M3 (k + 9) x2) = 0 → 
        ((0 ≤ (M3 k 1) ∧ (M3 k 1) < 300) ∧ 
        (∀ M5 : xM, M5 = xup M3 (k + 9) (M3 k 1) (0 : Int) → 
        (Q M5)))) ∧ 
      (¬ ((M3 (k + 9) x2) = 0) → 
        ((0 ≤ (M3 k 1) ∧ (M3 k 1) < 300) ∧ 
        (∀ M6 : xM, M6 = xup M3 (k + 9) (M3 k 1) (1 : Int) → 
        (Q M6))))))))))))))))))))) : C_Tm_join_0 e d k x1 x2 M Q := by
  refine xGo.in ?_
  refine And.intro (ob5 hk) ?_
  refine And.intro (ob5 hk) ?_
  refine And.intro (xi_st (a5_6 hk) (h.1)) ?_
  replace h := h.2
  obtain ⟨M1, hM1⟩ : ∃ z : xM, z = xup M (k + 6) (((M k 1) * (3 : Int)) + x1) x2 := ⟨_, rfl⟩
  refine xgo_st (e := e) (M := M1) (by subst hM1; rfl) ?_
  replace h := h M1 hM1
  refine And.intro (ob5 hk) ?_
  refine And.intro (ob5 hk) ?_
  refine And.intro (xi_ld (a5_7 hk) (h.1)) ?_
  replace h := h.2
  refine And.intro (ob5 hk) ?_
  refine And.intro (xi_ld (a5_7 hk) (h.1)) ?_
  replace h := h.2
  refine And.intro (xi_st (a5_7 hk) (h.1)) ?_
  replace h := h.2
  obtain ⟨M2, hM2⟩ : ∃ z : xM, z = xup M1 (k + 7) (M1 k 1) (xor32 (M1 (k + 7) (M1 k 1)) (M1 (k + 7) x2)) := ⟨_, rfl⟩
  refine xgo_st (e := e) (M := M2) (by subst hM2; rfl) ?_
  replace h := h M2 hM2
  refine And.intro (ob5 hk) ?_
  refine And.intro (ob5 hk) ?_
  refine And.intro (xi_ld (a5_8 hk) (h.1)) ?_
  replace h := h.2
  refine And.intro (ob5 hk) ?_
  refine And.intro (xi_ld (a5_8 hk) (h.1)) ?_
  replace h := h.2
  refine And.intro (xi_st (a5_8 hk) (h.1)) ?_
  replace h := h.2
  obtain ⟨M3, hM3⟩ : ∃ z : xM, z = xup M2 (k + 8) (M2 k 1) (xor32 (M2 (k + 8) (M2 k 1)) (M2 (k + 8) x2)) := ⟨_, rfl⟩
  refine xgo_st (e := e) (M := M3) (by subst hM3; rfl) ?_
  replace h := h M3 hM3
  refine And.intro (ob5 hk) ?_
  refine And.intro (ob5 hk) ?_
  refine And.intro (ob5 hk) ?_
  refine And.intro (ob5 hk) ?_
  refine And.intro (xi_ldb (a5_9 hk) (h.1)) ?_
  replace h := h.2
  refine And.intro (h.1) (And.intro (fun c => ?_) (fun c => ?_))
  · replace h := h.2.1 c
    refine And.intro (xi_stv (a5_9 hk) (h.1) (by decide)) ?_
    replace h := h.2
    obtain ⟨M4, hM4⟩ : ∃ z : xM, z = xup M3 (k + 9) (M3 k 1) (1 : Int) := ⟨_, rfl⟩
    refine xgo_st (e := e) (M := M4) (by subst hM4; rfl) ?_
    replace h := h M4 hM4
    exact yV_ret (r := .inl 0) h
  · replace h := h.2.2 c
    refine And.intro (ob5 hk) ?_
    refine And.intro (xi_ldb (a5_9 hk) (h.1)) ?_
    replace h := h.2
    refine And.intro (h.1) (And.intro (fun c => ?_) (fun c => ?_))
    · replace h := h.2.1 c
      refine And.intro (xi_stv (a5_9 hk) (h.1) (by decide)) ?_
      replace h := h.2
      obtain ⟨M5, hM5⟩ : ∃ z : xM, z = xup M3 (k + 9) (M3 k 1) (0 : Int) := ⟨_, rfl⟩
      refine xgo_st (e := e) (M := M5) (by subst hM5; rfl) ?_
      replace h := h M5 hM5
      exact yV_ret (r := .inl 0) h
    · replace h := h.2.2 c
      refine And.intro (xi_stv (a5_9 hk) (h.1) (by decide)) ?_
      replace h := h.2
      obtain ⟨M6, hM6⟩ : ∃ z : xM, z = xup M3 (k + 9) (M3 k 1) (1 : Int) := ⟨_, rfl⟩
      refine xgo_st (e := e) (M := M6) (by subst hM6; rfl) ?_
      replace h := h M6 hM6
      exact yV_ret (r := .inl 0) h
theorem c_Tm_join {e : yE} {d : Nat} {k : Nat} {x1 : Int} {x2 : Int} {M : xM} {Q : xM → Prop} (h : C_Tm_join_0 e d k x1 x2 M Q) : C_Tm_join e (d + 1) k x1 x2 M Q := h
def C_Tr_clear_0 (e : yE) (d : Nat) (k : Nat) (M : xM) (Q : xM → Prop) : Prop := xGo xft xNf xmt xtr d 48 0 [some (.inr (some k))] [] (yS e M) (yV e Q)
theorem c_Tr_clear_0 {e : yE} {d : Nat} {k : Nat} {M : xM} {Q : xM → Prop} (hs : CSh e) (hk : XSh6 k e) (h :
    ∀ M1 : xM, M1 = xup M k 0 (0 : Int) → 
    (∀ M2 : xM, M2 = xup M1 k 1 (0 : Int) → 
    (∀ M3 : xM, M3 = xup M2 k 2 (0 : Int) → 
    (∀ M4 : xM, M4 = xup M3 k 3 (-1 : Int) → 
    (∀ M5 : xM, M5 = xup M4 k 4 (0 : Int) → 
    (C_Ar_fill e d (k + 1) 4 (0 : Int) M5 (fun M6 => 
    Q M6))))))) : C_Tr_clear_0 e d k M Q := by
  refine xGo.in ?_
  refine And.intro (gob (ob6 hk) (by decide)) ?_
  obtain ⟨M1, hM1⟩ : ∃ z : xM, z = xup M k 0 (0 : Int) := ⟨_, rfl⟩
  refine xgo_st (e := e) (M := M1) (by subst hM1; rfl) ?_
  replace h := h M1 hM1
  refine And.intro (ob6 hk) ?_
  obtain ⟨M2, hM2⟩ : ∃ z : xM, z = xup M1 k 1 (0 : Int) := ⟨_, rfl⟩
  refine xgo_st (e := e) (M := M2) (by subst hM2; rfl) ?_
  replace h := h M2 hM2
  refine And.intro (ob6 hk) ?_
  obtain ⟨M3, hM3⟩ : ∃ z : xM, z = xup M2 k 2 (0 : Int) := ⟨_, rfl⟩
  refine xgo_st (e := e) (M := M3) (by subst hM3; rfl) ?_
  replace h := h M3 hM3
  refine And.intro (ob6 hk) ?_
  obtain ⟨M4, hM4⟩ : ∃ z : xM, z = xup M3 k 3 (-1 : Int) := ⟨_, rfl⟩
  refine xgo_st (e := e) (M := M4) (by subst hM4; rfl) ?_
  replace h := h M4 hM4
  refine And.intro (ob6 hk) ?_
  obtain ⟨M5, hM5⟩ : ∃ z : xM, z = xup M4 k 4 (0 : Int) := ⟨_, rfl⟩
  refine xgo_st (e := e) (M := M5) (by subst hM5; rfl) ?_
  replace h := h M5 hM5
  refine And.intro (ob6 hk) ?_
  refine And.intro ⟨Nat.le_of_ble_eq_true rfl, Nat.le_of_ble_eq_true rfl, trivial⟩ ?_
  refine yV_use h (fun _ M6 h => ?_)
  exact yV_ret (r := .inl 0) h
theorem c_Tr_clear {e : yE} {d : Nat} {k : Nat} {M : xM} {Q : xM → Prop} (h : C_Tr_clear_0 e d k M Q) : C_Tr_clear e (d + 1) k M Q := h
def C_Tr_become_0 (e : yE) (d : Nat) (k : Nat) (x1 x2 : Int) (M : xM) (Q : xM → Prop) : Prop := xGo xft xNf xmt xtr d 49 0 [some (.inr (some k)), some (.inl x1), some (.inl x2)] [] (yS e M) (yV e Q)
theorem c_Tr_become_0 {e : yE} {d : Nat} {k : Nat} {x1 x2 : Int} {M : xM} {Q : xM → Prop} (hs : CSh e) (hk : XSh6 k e) (h :
    (0 ≤ x1 ∧ x1 < 120) ∧ 
    (∀ M1 : xM, M1 = xup M (k + 3) x1 x2 → 
    ((0 ≤ x2 ∧ x2 < 4) ∧ 
    ((0 ≤ x2 ∧ x2 < 4) ∧ 
    (∀ M2 : xM, M2 = xup M1 (k + 1) x2 ((M1 (k + 1) x2) + (1 : Int)) → 
    ((rg x2) ∧ ((¬ x2 = (3 : Int) → 
      (Q M2)) ∧ 
    (¬ (¬ x2 = (3 : Int)) → 
      ((rg (M2 k 3)) ∧ ((¬ (M2 k 3) = (-1 : Int) → 
        (Q M2)) ∧ 
      (¬ (¬ (M2 k 3) = (-1 : Int)) → 
        (∀ M3 : xM, M3 = xup M2 k 3 x1 → 
        (Q M3))))))))))))) : C_Tr_become_0 e d k x1 x2 M Q := by
  refine xGo.in ?_
  refine And.intro (ob6 hk) ?_
  refine And.intro (xi_st (a6_3 hk) (h.1)) ?_
  replace h := h.2
  obtain ⟨M1, hM1⟩ : ∃ z : xM, z = xup M (k + 3) x1 x2 := ⟨_, rfl⟩
  refine xgo_st (e := e) (M := M1) (by subst hM1; rfl) ?_
  replace h := h M1 hM1
  refine And.intro (ob6 hk) ?_
  refine And.intro (xi_ld (a6_1 hk) (h.1)) ?_
  replace h := h.2
  refine And.intro (xi_st (a6_1 hk) (h.1)) ?_
  replace h := h.2
  obtain ⟨M2, hM2⟩ : ∃ z : xM, z = xup M1 (k + 1) x2 ((M1 (k + 1) x2) + (1 : Int)) := ⟨_, rfl⟩
  refine xgo_st (e := e) (M := M2) (by subst hM2; rfl) ?_
  replace h := h M2 hM2
  refine And.intro (⟨h.1, rg_lit (by decide)⟩) (And.intro (fun c => ?_) (fun c => ?_))
  · replace h := h.2.1 c
    exact yV_ret (r := .inl 0) h
  · replace h := h.2.2 c
    refine And.intro (ob6 hk) ?_
    refine And.intro (⟨h.1, rg_lit (by decide)⟩) (And.intro (fun c => ?_) (fun c => ?_))
    · replace h := h.2.1 c
      exact yV_ret (r := .inl 0) h
    · replace h := h.2.2 c
      refine And.intro (ob6 hk) ?_
      obtain ⟨M3, hM3⟩ : ∃ z : xM, z = xup M2 k 3 x1 := ⟨_, rfl⟩
      refine xgo_st (e := e) (M := M3) (by subst hM3; rfl) ?_
      replace h := h M3 hM3
      exact yV_ret (r := .inl 0) h
theorem c_Tr_become {e : yE} {d : Nat} {k : Nat} {x1 : Int} {x2 : Int} {M : xM} {Q : xM → Prop} (h : C_Tr_become_0 e d k x1 x2 M Q) : C_Tr_become e (d + 1) k x1 x2 M Q := h
def C_Tr_addPlace_0 (e : yE) (d : Nat) (k : Nat) (x1 : Int) (M : xM) (Q : xM → Prop) : Prop := xGo xft xNf xmt xtr d 50 0 [some (.inr (some k)), some (.inl x1)] [] (yS e M) (yV e Q)
theorem c_Tr_addPlace_0 {e : yE} {d : Nat} {k : Nat} {x1 : Int} {M : xM} {Q : xM → Prop} (hs : CSh e) (hk : XSh6 k e) (h :
    (0 ≤ (M k 4) ∧ (M k 4) < 360) ∧ 
    (∀ M1 : xM, M1 = xup M (k + 2) (M k 4) x1 → 
    (∀ M2 : xM, M2 = xup M1 k 4 ((M1 k 4) + (1 : Int)) → 
    (Q M2)))) : C_Tr_addPlace_0 e d k x1 M Q := by
  refine xGo.in ?_
  refine And.intro (ob6 hk) ?_
  refine And.intro (ob6 hk) ?_
  refine And.intro (xi_st (a6_2 hk) (h.1)) ?_
  replace h := h.2
  obtain ⟨M1, hM1⟩ : ∃ z : xM, z = xup M (k + 2) (M k 4) x1 := ⟨_, rfl⟩
  refine xgo_st (e := e) (M := M1) (by subst hM1; rfl) ?_
  replace h := h M1 hM1
  refine And.intro (ob6 hk) ?_
  refine And.intro (ob6 hk) ?_
  obtain ⟨M2, hM2⟩ : ∃ z : xM, z = xup M1 k 4 ((M1 k 4) + (1 : Int)) := ⟨_, rfl⟩
  refine xgo_st (e := e) (M := M2) (by subst hM2; rfl) ?_
  replace h := h M2 hM2
  exact yV_ret (r := .inl 0) h
theorem c_Tr_addPlace {e : yE} {d : Nat} {k : Nat} {x1 : Int} {M : xM} {Q : xM → Prop} (h : C_Tr_addPlace_0 e d k x1 M Q) : C_Tr_addPlace e (d + 1) k x1 M Q := h
def C_Tr_addBranches_0 (e : yE) (d : Nat) (k : Nat) (x1 x2 : Int) (M : xM) (Q : Int → xM → Prop) : Prop := ∀ (o3 o4 : Option xV), xGo xft xNf xmt xtr d 51 0 [some (.inr (some k)), some (.inl x1), some (.inl x2), o3, o4] [] (yS e M) (yI e Q)
def C_Tr_addBranches_26 (e : yE) (d : Nat) (k : Nat) (x1 x2 x3 x4 : Int) (M : xM) (Q : Int → xM → Prop) : Prop := xGo xft xNf xmt xtr d 51 26 [some (.inr (some k)), some (.inl x1), some (.inl x2), some (.inl x3), some (.inl x4)] [] (yS e M) (yI e Q)
theorem c_Tr_addBranches_0 {e : yE} {d : Nat} {k : Nat} {x1 x2 : Int} {M : xM} {Q : Int → xM → Prop} (hs : CSh e) (hk : XSh6 k e) (h :
    (rg ((M k 1) + x2)) ∧ ((((M k 1) + x2) ≤ (120 : Int) → 
      (C_Tr_addBranches_26 e d k x1 x2 (M k 1) (0 : Int) M Q)) ∧ 
    (¬ (((M k 1) + x2) ≤ (120 : Int)) → 
      (∀ M1 : xM, M1 = xup M k 0 (1 : Int) → 
      (Q (-1 : Int) M1))))) : C_Tr_addBranches_0 e d k x1 x2 M Q := by
  intro o3 o4
  refine xGo.in ?_
  refine And.intro (ob6 hk) ?_
  refine And.intro (⟨h.1, rg_lit (by decide)⟩) (And.intro (fun c => ?_) (fun c => ?_))
  · replace h := h.2.1 c
    refine And.intro (ob6 hk) ?_
    exact h
  · replace h := h.2.2 c
    refine And.intro (gob (ob6 hk) (by decide)) ?_
    obtain ⟨M1, hM1⟩ : ∃ z : xM, z = xup M k 0 (1 : Int) := ⟨_, rfl⟩
    refine xgo_st (e := e) (M := M1) (by subst hM1; rfl) ?_
    replace h := h M1 hM1
    exact yI_ret h
theorem c_Tr_addBranches_26 {e : yE} {d : Nat} {k : Nat} {x1 x2 x3 x4 : Int} {M : xM} {Q : Int → xM → Prop} (hs : CSh e) (hk : XSh6 k e) (h :
    (rg x4 ∧ rg x2) ∧ ((x2 ≤ x4 → 
      ((rg x1) ∧ ((x1 = (-1 : Int) → 
        (Q x3 M)) ∧ 
      (¬ (x1 = (-1 : Int)) → 
        ((0 ≤ x1 ∧ x1 < 120) ∧ 
        (∀ M1 : xM, M1 = xup M (k + 7) x1 x3 → 
        ((0 ≤ x1 ∧ x1 < 120) ∧ 
        (∀ M2 : xM, M2 = xup M1 (k + 8) x1 x2 → 
        (Q x3 M2))))))))) ∧ 
    (¬ (x2 ≤ x4) → 
      ((0 ≤ (M k 1) ∧ (M k 1) < 120) ∧ 
      (∀ M3 : xM, M3 = xup M (k + 6) (M k 1) x1 → 
      (∀ M4 : xM, M4 = xup M3 k 1 ((M3 k 1) + (1 : Int)) → 
      (C_Tr_addBranches_26 e d k x1 x2 x3 (x4 + 1) M4 Q))))))) : C_Tr_addBranches_26 e d k x1 x2 x3 x4 M Q := by
  refine xGo.in ?_
  refine And.intro (⟨h.1.1, h.1.2⟩) (And.intro (fun c => ?_) (fun c => ?_))
  · replace h := h.2.1 c
    refine And.intro (⟨h.1, rg_lit (by decide)⟩) (And.intro (fun c => ?_) (fun c => ?_))
    · replace h := h.2.1 c
      exact yI_ret h
    · replace h := h.2.2 c
      refine And.intro (ob6 hk) ?_
      refine And.intro (xi_st (a6_7 hk) (h.1)) ?_
      replace h := h.2
      obtain ⟨M1, hM1⟩ : ∃ z : xM, z = xup M (k + 7) x1 x3 := ⟨_, rfl⟩
      refine xgo_st (e := e) (M := M1) (by subst hM1; rfl) ?_
      replace h := h M1 hM1
      refine And.intro (ob6 hk) ?_
      refine And.intro (xi_st (a6_8 hk) (h.1)) ?_
      replace h := h.2
      obtain ⟨M2, hM2⟩ : ∃ z : xM, z = xup M1 (k + 8) x1 x2 := ⟨_, rfl⟩
      refine xgo_st (e := e) (M := M2) (by subst hM2; rfl) ?_
      replace h := h M2 hM2
      exact yI_ret h
  · replace h := h.2.2 c
    refine And.intro (ob6 hk) ?_
    refine And.intro (ob6 hk) ?_
    refine And.intro (xi_st (a6_6 hk) (h.1)) ?_
    replace h := h.2
    obtain ⟨M3, hM3⟩ : ∃ z : xM, z = xup M (k + 6) (M k 1) x1 := ⟨_, rfl⟩
    refine xgo_st (e := e) (M := M3) (by subst hM3; rfl) ?_
    replace h := h M3 hM3
    refine And.intro (ob6 hk) ?_
    refine And.intro (ob6 hk) ?_
    obtain ⟨M4, hM4⟩ : ∃ z : xM, z = xup M3 k 1 ((M3 k 1) + (1 : Int)) := ⟨_, rfl⟩
    refine xgo_st (e := e) (M := M4) (by subst hM4; rfl) ?_
    replace h := h M4 hM4
    exact h
theorem c_Tr_addBranches {e : yE} {d : Nat} {k : Nat} {x1 : Int} {x2 : Int} {M : xM} {Q : Int → xM → Prop} (h : C_Tr_addBranches_0 e d k x1 x2 M Q) : C_Tr_addBranches e (d + 1) k x1 x2 M Q := h _ _
def C_Tr_placeOfName_0 (e : yE) (d : Nat) (k : Nat) (x1 x2 : Int) (M : xM) (Q : Int → xM → Prop) : Prop := xGo xft xNf xmt xtr d 52 0 [some (.inr (some k)), some (.inl x1), some (.inl x2)] [] (yS e M) (yI e Q)
theorem c_Tr_placeOfName_0 {e : yE} {d : Nat} {k : Nat} {x1 x2 : Int} {M : xM} {Q : Int → xM → Prop} (hs : CSh e) (hk : XSh6 k e) (h :
    (0 ≤ ((x1 * (16 : Int)) + x2) ∧ ((x1 * (16 : Int)) + x2) < 1920) ∧ 
    (Q (M (k + 12) ((x1 * (16 : Int)) + x2)) M)) : C_Tr_placeOfName_0 e d k x1 x2 M Q := by
  refine xGo.in ?_
  refine And.intro (ob6 hk) ?_
  refine And.intro (xi_ld (a6_12 hk) (h.1)) ?_
  replace h := h.2
  exact yI_ret h
theorem c_Tr_placeOfName {e : yE} {d : Nat} {k : Nat} {x1 : Int} {x2 : Int} {M : xM} {Q : Int → xM → Prop} (h : C_Tr_placeOfName_0 e d k x1 x2 M Q) : C_Tr_placeOfName e (d + 1) k x1 x2 M Q := h
def C_Ty_isType_0 (e : yE) (d : Nat) (x1 : Int) (M : xM) (Q : Int → xM → Prop) : Prop := xGo xft xNf xmt xtr d 54 0 [some (.inr (some 2)), some (.inl x1)] [] (yS e M) (yI e Q)
theorem c_Ty_isType_0 {e : yE} {d : Nat} {x1 : Int} {M : xM} {Q : Int → xM → Prop} (hs : CSh e) (h :
    (rg x1) ∧ ((x1 < 0 → 
      (Q (0 : Int) M)) ∧ 
    (¬ (x1 < 0) → 
      ((rg x1 ∧ rg (M 2 0)) ∧ (((M 2 0) ≤ x1 → 
        (Q (0 : Int) M)) ∧ 
      (¬ ((M 2 0) ≤ x1) → 
        (Q (1 : Int) M))))))) : C_Ty_isType_0 e d x1 M Q := by
  refine xGo.in ?_
  refine And.intro (h.1) (And.intro (fun c => ?_) (fun c => ?_))
  · replace h := h.2.1 c
    exact And.intro (by decide) (yI_ret h)
  · replace h := h.2.2 c
    refine And.intro (cob_2 hs) ?_
    refine And.intro (⟨h.1.1, h.1.2⟩) (And.intro (fun c => ?_) (fun c => ?_))
    · replace h := h.2.1 c
      exact And.intro (by decide) (yI_ret h)
    · replace h := h.2.2 c
      exact And.intro (by decide) (yI_ret h)
theorem c_Ty_isType {e : yE} {d : Nat} {x1 : Int} {M : xM} {Q : Int → xM → Prop} (h : C_Ty_isType_0 e d x1 M Q) : C_Ty_isType e (d + 1) x1 M Q := h
def C_Ty_isMaker_0 (e : yE) (d : Nat) (x1 x2 : Int) (M : xM) (Q : Int → xM → Prop) : Prop := xGo xft xNf xmt xtr d 55 0 [some (.inr (some 2)), some (.inl x1), some (.inl x2)] [] (yS e M) (yI e Q)
theorem c_Ty_isMaker_0 {e : yE} {d : Nat} {x1 x2 : Int} {M : xM} {Q : Int → xM → Prop} (hs : CSh e) (h :
    C_Ty_isType e d x1 M (fun y2 M1 => 
    (rg y2) ∧ ((y2 = 0 → 
      (Q (0 : Int) M1)) ∧ 
    (¬ (y2 = 0) → 
      ((rg x2) ∧ ((x2 < 0 → 
        (Q (0 : Int) M1)) ∧ 
      (¬ (x2 < 0) → 
        ((0 ≤ x1 ∧ x1 < 8) ∧ 
        ((rg x2 ∧ rg (M1 3 x1)) ∧ (((M1 3 x1) ≤ x2 → 
          (Q (0 : Int) M1)) ∧ 
        (¬ ((M1 3 x1) ≤ x2) → 
          (Q (1 : Int) M1)))))))))))) : C_Ty_isMaker_0 e d x1 x2 M Q := by
  refine xGo.in ?_
  refine And.intro ⟨Nat.le_of_ble_eq_true rfl, Nat.le_of_ble_eq_true rfl, cob_2 hs⟩ ?_
  refine yI_use h (fun y2 M1 h => ?_)
  refine And.intro (h.1) (And.intro (fun c => ?_) (fun c => ?_))
  · replace h := h.2.1 c
    exact And.intro (by decide) (yI_ret h)
  · replace h := h.2.2 c
    refine And.intro (h.1) (And.intro (fun c => ?_) (fun c => ?_))
    · replace h := h.2.1 c
      exact And.intro (by decide) (yI_ret h)
    · replace h := h.2.2 c
      refine And.intro (cob_2 hs) ?_
      refine And.intro (xi_ld (caa_3 hs) (h.1)) ?_
      replace h := h.2
      refine And.intro (⟨h.1.1, h.1.2⟩) (And.intro (fun c => ?_) (fun c => ?_))
      · replace h := h.2.1 c
        exact And.intro (by decide) (yI_ret h)
      · replace h := h.2.2 c
        exact And.intro (by decide) (yI_ret h)
theorem c_Ty_isMaker {e : yE} {d : Nat} {x1 : Int} {x2 : Int} {M : xM} {Q : Int → xM → Prop} (h : C_Ty_isMaker_0 e d x1 x2 M Q) : C_Ty_isMaker e (d + 1) x1 x2 M Q := h
def C_Ty_partsOf_0 (e : yE) (d : Nat) (x1 x2 : Int) (M : xM) (Q : Int → xM → Prop) : Prop := xGo xft xNf xmt xtr d 56 0 [some (.inr (some 2)), some (.inl x1), some (.inl x2)] [] (yS e M) (yI e Q)
theorem c_Ty_partsOf_0 {e : yE} {d : Nat} {x1 x2 : Int} {M : xM} {Q : Int → xM → Prop} (hs : CSh e) (h :
    C_Ty_isMaker e d x1 x2 M (fun y2 M1 => 
    (rg y2) ∧ ((y2 = 0 → 
      (Q (0 : Int) M1)) ∧ 
    (¬ (y2 = 0) → 
      ((0 ≤ ((x1 * (6 : Int)) + x2) ∧ ((x1 * (6 : Int)) + x2) < 48) ∧ 
      (Q (M1 4 ((x1 * (6 : Int)) + x2)) M1)))))) : C_Ty_partsOf_0 e d x1 x2 M Q := by
  refine xGo.in ?_
  refine And.intro ⟨Nat.le_of_ble_eq_true rfl, Nat.le_of_ble_eq_true rfl, cob_2 hs⟩ ?_
  refine yI_use h (fun y2 M1 h => ?_)
  refine And.intro (h.1) (And.intro (fun c => ?_) (fun c => ?_))
  · replace h := h.2.1 c
    exact yI_ret h
  · replace h := h.2.2 c
    refine And.intro (cob_2 hs) ?_
    refine And.intro (xi_ld (caa_4 hs) (h.1)) ?_
    replace h := h.2
    exact yI_ret h
theorem c_Ty_partsOf {e : yE} {d : Nat} {x1 : Int} {x2 : Int} {M : xM} {Q : Int → xM → Prop} (h : C_Ty_partsOf_0 e d x1 x2 M Q) : C_Ty_partsOf e (d + 1) x1 x2 M Q := h
def C_Ty_partTypeOf_0 (e : yE) (d : Nat) (x1 x2 x3 : Int) (M : xM) (Q : Int → xM → Prop) : Prop := xGo xft xNf xmt xtr d 57 0 [some (.inr (some 2)), some (.inl x1), some (.inl x2), some (.inl x3)] [] (yS e M) (yI e Q)
theorem c_Ty_partTypeOf_0 {e : yE} {d : Nat} {x1 x2 x3 : Int} {M : xM} {Q : Int → xM → Prop} (hs : CSh e) (h :
    (0 ≤ ((((x1 * (6 : Int)) + x2) * (3 : Int)) + x3) ∧ ((((x1 * (6 : Int)) + x2) * (3 : Int)) + x3) < 144) ∧ 
    (Q (M 5 ((((x1 * (6 : Int)) + x2) * (3 : Int)) + x3)) M)) : C_Ty_partTypeOf_0 e d x1 x2 x3 M Q := by
  refine xGo.in ?_
  refine And.intro (cob_2 hs) ?_
  refine And.intro (xi_ld (caa_5 hs) (h.1)) ?_
  replace h := h.2
  exact yI_ret h
theorem c_Ty_partTypeOf {e : yE} {d : Nat} {x1 : Int} {x2 : Int} {x3 : Int} {M : xM} {Q : Int → xM → Prop} (h : C_Ty_partTypeOf_0 e d x1 x2 x3 M Q) : C_Ty_partTypeOf e (d + 1) x1 x2 x3 M Q := h
def C_Ty_areTypes_0 (e : yE) (d : Nat) (a1 : Nat) (n1 : Nat) (x2 : Int) (M : xM) (Q : Int → xM → Prop) : Prop := ∀ (o3 : Option xV), xGo xft xNf xmt xtr d 58 0 [some (.inr (some 2)), some (.inr (some a1)), some (.inl x2), o3] [] (yS e M) (yI e Q)
def C_Ty_areTypes_2 (e : yE) (d : Nat) (a1 : Nat) (n1 : Nat) (x2 x3 : Int) (M : xM) (Q : Int → xM → Prop) : Prop := xGo xft xNf xmt xtr d 58 2 [some (.inr (some 2)), some (.inr (some a1)), some (.inl x2), some (.inl x3)] [] (yS e M) (yI e Q)
theorem c_Ty_areTypes_0 {e : yE} {d : Nat} {a1 : Nat} {n1 : Nat} {x2 : Int} {M : xM} {Q : Int → xM → Prop} (hs : CSh e) (h1 : yA e a1 1 n1) (h :
    C_Ty_areTypes_2 e d a1 n1 x2 (0 : Int) M Q) : C_Ty_areTypes_0 e d a1 n1 x2 M Q := by
  intro o3
  refine xGo.in ?_
  exact h
theorem c_Ty_areTypes_2 {e : yE} {d : Nat} {a1 : Nat} {n1 : Nat} {x2 x3 : Int} {M : xM} {Q : Int → xM → Prop} (hs : CSh e) (h1 : yA e a1 1 n1) (h :
    (rg x3 ∧ rg x2) ∧ ((x2 ≤ x3 → 
      (Q (1 : Int) M)) ∧ 
    (¬ (x2 ≤ x3) → 
      ((0 ≤ x3 ∧ x3 < (n1 : Int)) ∧ 
      (C_Ty_isType e d (M a1 x3) M (fun y2 M1 => 
      (rg y2) ∧ ((¬ y2 = 0 → 
        (C_Ty_areTypes_2 e d a1 n1 x2 (x3 + 1) M1 Q)) ∧ 
      (¬ (¬ y2 = 0) → 
        (Q (0 : Int) M1))))))))) : C_Ty_areTypes_2 e d a1 n1 x2 x3 M Q := by
  refine xGo.in ?_
  refine And.intro (⟨h.1.1, h.1.2⟩) (And.intro (fun c => ?_) (fun c => ?_))
  · replace h := h.2.1 c
    exact And.intro (by decide) (yI_ret h)
  · replace h := h.2.2 c
    refine And.intro (xi_ld (h1) (h.1)) ?_
    replace h := h.2
    refine And.intro ⟨Nat.le_of_ble_eq_true rfl, Nat.le_of_ble_eq_true rfl, cob_2 hs⟩ ?_
    refine yI_use h (fun y2 M1 h => ?_)
    refine And.intro (h.1) (And.intro (fun c => ?_) (fun c => ?_))
    · replace h := h.2.1 c
      exact h
    · replace h := h.2.2 c
      exact And.intro (by decide) (yI_ret h)
theorem c_Ty_areTypes {e : yE} {d : Nat} {a1 : Nat} {n1 : Nat} {x2 : Int} {M : xM} {Q : Int → xM → Prop} (h : C_Ty_areTypes_0 e d a1 n1 x2 M Q) : C_Ty_areTypes e (d + 1) a1 n1 x2 M Q := h _
def C_Ty_allHaveValues_0 (e : yE) (d : Nat) (M : xM) (Q : Int → xM → Prop) : Prop := ∀ (o1 : Option xV), xGo xft xNf xmt xtr d 59 0 [some (.inr (some 2)), o1] [] (yS e M) (yI e Q)
def C_Ty_allHaveValues_2 (e : yE) (d : Nat) (x1 : Int) (M : xM) (Q : Int → xM → Prop) : Prop := xGo xft xNf xmt xtr d 59 2 [some (.inr (some 2)), some (.inl x1)] [] (yS e M) (yI e Q)
theorem c_Ty_allHaveValues_0 {e : yE} {d : Nat} {M : xM} {Q : Int → xM → Prop} (hs : CSh e) (h :
    C_Ty_allHaveValues_2 e d (0 : Int) M Q) : C_Ty_allHaveValues_0 e d  M Q := by
  intro o1
  refine xGo.in ?_
  exact h
theorem c_Ty_allHaveValues_2 {e : yE} {d : Nat} {x1 : Int} {M : xM} {Q : Int → xM → Prop} (hs : CSh e) (h :
    (rg x1 ∧ rg (M 2 0)) ∧ (((M 2 0) ≤ x1 → 
      (Q (1 : Int) M)) ∧ 
    (¬ ((M 2 0) ≤ x1) → 
      ((0 ≤ x1 ∧ x1 < 8) ∧ 
      ((rg (M 6 x1)) ∧ ((¬ (M 6 x1) = 0 → 
        (C_Ty_allHaveValues_2 e d (x1 + 1) M Q)) ∧ 
      (¬ (¬ (M 6 x1) = 0) → 
        (Q (0 : Int) M)))))))) : C_Ty_allHaveValues_2 e d x1 M Q := by
  refine xGo.in ?_
  refine And.intro (cob_2 hs) ?_
  refine And.intro (⟨h.1.1, h.1.2⟩) (And.intro (fun c => ?_) (fun c => ?_))
  · replace h := h.2.1 c
    exact And.intro (by decide) (yI_ret h)
  · replace h := h.2.2 c
    refine And.intro (cob_2 hs) ?_
    refine And.intro (xi_ld (caa_6 hs) (h.1)) ?_
    replace h := h.2
    refine And.intro (h.1) (And.intro (fun c => ?_) (fun c => ?_))
    · replace h := h.2.1 c
      exact h
    · replace h := h.2.2 c
      exact And.intro (by decide) (yI_ret h)
theorem c_Ty_allHaveValues {e : yE} {d : Nat} {M : xM} {Q : Int → xM → Prop} (h : C_Ty_allHaveValues_0 e d  M Q) : C_Ty_allHaveValues e (d + 1)  M Q := h _
def C_Ty_addType_0 (e : yE) (d : Nat) (M : xM) (Q : Int → xM → Prop) : Prop := xGo xft xNf xmt xtr d 60 0 [some (.inr (some 2))] [] (yS e M) (yI e Q)
theorem c_Ty_addType_0 {e : yE} {d : Nat} {M : xM} {Q : Int → xM → Prop} (hs : CSh e) (h :
    (rg (M 2 0)) ∧ ((¬ (M 2 0) = (8 : Int) → 
      (∀ M1 : xM, M1 = xup M 2 0 ((M 2 0) + (1 : Int)) → 
      (Q ((M1 2 0) - (1 : Int)) M1))) ∧ 
    (¬ (¬ (M 2 0) = (8 : Int)) → 
      (Q (-1 : Int) M)))) : C_Ty_addType_0 e d  M Q := by
  refine xGo.in ?_
  refine And.intro (cob_2 hs) ?_
  refine And.intro (⟨h.1, rg_lit (by decide)⟩) (And.intro (fun c => ?_) (fun c => ?_))
  · replace h := h.2.1 c
    refine And.intro (cob_2 hs) ?_
    refine And.intro (cob_2 hs) ?_
    obtain ⟨M1, hM1⟩ : ∃ z : xM, z = xup M 2 0 ((M 2 0) + (1 : Int)) := ⟨_, rfl⟩
    refine xgo_st (e := e) (M := M1) (by subst hM1; rfl) ?_
    replace h := h M1 hM1
    refine And.intro (cob_2 hs) ?_
    exact yI_ret h
  · replace h := h.2.2 c
    exact yI_ret h
theorem c_Ty_addType {e : yE} {d : Nat} {M : xM} {Q : Int → xM → Prop} (h : C_Ty_addType_0 e d  M Q) : C_Ty_addType e (d + 1)  M Q := h
def C_Ty_addMaker_0 (e : yE) (d : Nat) (a3 : Nat) (n3 : Nat) (x1 x2 : Int) (M : xM) (Q : Int → xM → Prop) : Prop := ∀ (o4 o5 : Option xV), xGo xft xNf xmt xtr d 61 0 [some (.inr (some 2)), some (.inl x1), some (.inl x2), some (.inr (some a3)), o4, o5] [] (yS e M) (yI e Q)
def C_Ty_addMaker_69 (e : yE) (d : Nat) (a3 : Nat) (n3 : Nat) (x1 x2 x4 x5 : Int) (M : xM) (Q : Int → xM → Prop) : Prop := xGo xft xNf xmt xtr d 61 69 [some (.inr (some 2)), some (.inl x1), some (.inl x2), some (.inr (some a3)), some (.inl x4), some (.inl x5)] [] (yS e M) (yI e Q)
theorem c_Ty_addMaker_0 {e : yE} {d : Nat} {a3 : Nat} {n3 : Nat} {x1 x2 : Int} {M : xM} {Q : Int → xM → Prop} (hs : CSh e) (h3 : yA e a3 1 n3) (h :
    C_Ty_isType e d x1 M (fun y2 M1 => 
    (rg y2) ∧ ((y2 = 0 → 
      (Q (-1 : Int) M1)) ∧ 
    (¬ (y2 = 0) → 
      ((rg x1) ∧ ((x1 = 0 → 
        (Q (-1 : Int) M1)) ∧ 
      (¬ (x1 = 0) → 
        ((rg x2) ∧ ((x2 < 0 → 
          (Q (-1 : Int) M1)) ∧ 
        (¬ (x2 < 0) → 
          ((rg x2) ∧ ((x2 ≤ (3 : Int) → 
            ((0 ≤ x1 ∧ x1 < 8) ∧ 
            ((rg (M1 3 x1)) ∧ (((M1 3 x1) = (6 : Int) → 
              (Q (-1 : Int) M1)) ∧ 
            (¬ ((M1 3 x1) = (6 : Int)) → 
              (C_Ty_areTypes e d a3 n3 x2 M1 (fun y4 M3 => 
              (rg y4) ∧ ((¬ y4 = 0 → 
                ((0 ≤ x1 ∧ x1 < 8) ∧ 
                ((0 ≤ ((x1 * (6 : Int)) + (M3 3 x1)) ∧ ((x1 * (6 : Int)) + (M3 3 x1)) < 48) ∧ 
                (∀ M5 : xM, M5 = xup M3 4 ((x1 * (6 : Int)) + (M3 3 x1)) x2 → 
                (C_Ty_addMaker_69 e d a3 n3 x1 x2 (M3 3 x1) (0 : Int) M5 Q))))) ∧ 
              (¬ (¬ y4 = 0) → 
                (Q (-1 : Int) M3)))))))))) ∧ 
          (¬ (x2 ≤ (3 : Int)) → 
            (Q (-1 : Int) M1)))))))))))))) : C_Ty_addMaker_0 e d a3 n3 x1 x2 M Q := by
  intro o4 o5
  refine xGo.in ?_
  refine And.intro ⟨Nat.le_of_ble_eq_true rfl, Nat.le_of_ble_eq_true rfl, cob_2 hs⟩ ?_
  refine yI_use h (fun y2 M1 h => ?_)
  refine And.intro (h.1) (And.intro (fun c => ?_) (fun c => ?_))
  · replace h := h.2.1 c
    exact yI_ret h
  · replace h := h.2.2 c
    refine And.intro (h.1) (And.intro (fun c => ?_) (fun c => ?_))
    · replace h := h.2.1 c
      exact yI_ret h
    · replace h := h.2.2 c
      refine And.intro (h.1) (And.intro (fun c => ?_) (fun c => ?_))
      · replace h := h.2.1 c
        exact yI_ret h
      · replace h := h.2.2 c
        refine And.intro (⟨h.1, rg_lit (by decide)⟩) (And.intro (fun c => ?_) (fun c => ?_))
        · replace h := h.2.1 c
          refine And.intro (cob_2 hs) ?_
          refine And.intro (xi_ld (caa_3 hs) (h.1)) ?_
          replace h := h.2
          refine And.intro (⟨h.1, rg_lit (by decide)⟩) (And.intro (fun c => ?_) (fun c => ?_))
          · replace h := h.2.1 c
            exact yI_ret h
          · replace h := h.2.2 c
            refine And.intro ⟨Nat.le_of_ble_eq_true rfl, Nat.le_of_ble_eq_true rfl, cob_2 hs⟩ ?_
            refine yI_use h (fun y4 M3 h => ?_)
            refine And.intro (h.1) (And.intro (fun c => ?_) (fun c => ?_))
            · replace h := h.2.1 c
              refine And.intro (cob_2 hs) ?_
              refine And.intro (xi_ld (caa_3 hs) (h.1)) ?_
              replace h := h.2
              refine And.intro (cob_2 hs) ?_
              refine And.intro (xi_st (caa_4 hs) (h.1)) ?_
              replace h := h.2
              obtain ⟨M5, hM5⟩ : ∃ z : xM, z = xup M3 4 ((x1 * (6 : Int)) + (M3 3 x1)) x2 := ⟨_, rfl⟩
              refine xgo_st (e := e) (M := M5) (by subst hM5; rfl) ?_
              replace h := h M5 hM5
              exact h
            · replace h := h.2.2 c
              exact yI_ret h
        · replace h := h.2.2 c
          exact yI_ret h
theorem c_Ty_addMaker_69 {e : yE} {d : Nat} {a3 : Nat} {n3 : Nat} {x1 x2 x4 x5 : Int} {M : xM} {Q : Int → xM → Prop} (hs : CSh e) (h3 : yA e a3 1 n3) (h :
    (rg x5 ∧ rg x2) ∧ ((x2 ≤ x5 → 
      ((0 ≤ x1 ∧ x1 < 8) ∧ 
      ((0 ≤ x1 ∧ x1 < 8) ∧ 
      (∀ M1 : xM, M1 = xup M 3 x1 ((M 3 x1) + (1 : Int)) → 
      (∀ M2 : xM, M2 = xup M1 2 1 ((M1 2 1) + (1 : Int)) → 
      (C_Ty_settlePlain e d M2 (fun M3 => 
      Q x4 M3))))))) ∧ 
    (¬ (x2 ≤ x5) → 
      ((0 ≤ x5 ∧ x5 < (n3 : Int)) ∧ 
      ((0 ≤ ((((x1 * (6 : Int)) + x4) * (3 : Int)) + x5) ∧ ((((x1 * (6 : Int)) + x4) * (3 : Int)) + x5) < 144) ∧ 
      (∀ M4 : xM, M4 = xup M 5 ((((x1 * (6 : Int)) + x4) * (3 : Int)) + x5) (M a3 x5) → 
      (C_Ty_addMaker_69 e d a3 n3 x1 x2 x4 (x5 + 1) M4 Q))))))) : C_Ty_addMaker_69 e d a3 n3 x1 x2 x4 x5 M Q := by
  refine xGo.in ?_
  refine And.intro (⟨h.1.1, h.1.2⟩) (And.intro (fun c => ?_) (fun c => ?_))
  · replace h := h.2.1 c
    refine And.intro (cob_2 hs) ?_
    refine And.intro (xi_ld (caa_3 hs) (h.1)) ?_
    replace h := h.2
    refine And.intro (xi_st (caa_3 hs) (h.1)) ?_
    replace h := h.2
    obtain ⟨M1, hM1⟩ : ∃ z : xM, z = xup M 3 x1 ((M 3 x1) + (1 : Int)) := ⟨_, rfl⟩
    refine xgo_st (e := e) (M := M1) (by subst hM1; rfl) ?_
    replace h := h M1 hM1
    refine And.intro (cob_2 hs) ?_
    refine And.intro (cob_2 hs) ?_
    obtain ⟨M2, hM2⟩ : ∃ z : xM, z = xup M1 2 1 ((M1 2 1) + (1 : Int)) := ⟨_, rfl⟩
    refine xgo_st (e := e) (M := M2) (by subst hM2; rfl) ?_
    replace h := h M2 hM2
    refine And.intro ⟨Nat.le_of_ble_eq_true rfl, Nat.le_of_ble_eq_true rfl, cob_2 hs⟩ ?_
    refine yV_use h (fun _ M3 h => ?_)
    exact yI_ret h
  · replace h := h.2.2 c
    refine And.intro (cob_2 hs) ?_
    refine And.intro (xi_ld (h3) (h.1)) ?_
    replace h := h.2
    refine And.intro (xi_st (caa_5 hs) (h.1)) ?_
    replace h := h.2
    obtain ⟨M4, hM4⟩ : ∃ z : xM, z = xup M 5 ((((x1 * (6 : Int)) + x4) * (3 : Int)) + x5) (M a3 x5) := ⟨_, rfl⟩
    refine xgo_st (e := e) (M := M4) (by subst hM4; rfl) ?_
    replace h := h M4 hM4
    exact h
theorem c_Ty_addMaker {e : yE} {d : Nat} {x1 : Int} {x2 : Int} {a3 : Nat} {n3 : Nat} {M : xM} {Q : Int → xM → Prop} (h : C_Ty_addMaker_0 e d a3 n3 x1 x2 M Q) : C_Ty_addMaker e (d + 1) x1 x2 a3 n3 M Q := h _ _
def C_Ty_settlePlain_0 (e : yE) (d : Nat) (M : xM) (Q : xM → Prop) : Prop := ∀ (o1 o2 : Option xV), xGo xft xNf xmt xtr d 62 0 [some (.inr (some 2)), o1, o2] [] (yS e M) (yV e Q)
def C_Ty_settlePlain_2 (e : yE) (d : Nat) (x1 : Int) (M : xM) (Q : xM → Prop) : Prop := ∀ (o2 : Option xV), xGo xft xNf xmt xtr d 62 2 [some (.inr (some 2)), some (.inl x1), o2] [] (yS e M) (yV e Q)
def C_Ty_settlePlain_10 (e : yE) (d : Nat) (x1 x2 : Int) (M : xM) (Q : xM → Prop) : Prop := xGo xft xNf xmt xtr d 62 10 [some (.inr (some 2)), some (.inl x1), some (.inl x2)] [] (yS e M) (yV e Q)
theorem c_Ty_settlePlain_0 {e : yE} {d : Nat} {M : xM} {Q : xM → Prop} (hs : CSh e) (h :
    C_Ty_settlePlain_2 e d (0 : Int) M Q) : C_Ty_settlePlain_0 e d  M Q := by
  intro o1 o2
  refine xGo.in ?_
  exact h _
theorem c_Ty_settlePlain_2 {e : yE} {d : Nat} {x1 : Int} {M : xM} {Q : xM → Prop} (hs : CSh e) (h :
    (rg x1) ∧ (((8 : Int) < x1 → 
      (Q M)) ∧ 
    (¬ ((8 : Int) < x1) → 
      (C_Ty_settlePlain_10 e d x1 (1 : Int) M Q)))) : C_Ty_settlePlain_2 e d x1 M Q := by
  intro o2
  refine xGo.in ?_
  refine And.intro (⟨h.1, rg_lit (by decide)⟩) (And.intro (fun c => ?_) (fun c => ?_))
  · replace h := h.2.1 c
    exact yV_ret (r := .inl 0) h
  · replace h := h.2.2 c
    exact h
theorem c_Ty_settlePlain_10 {e : yE} {d : Nat} {x1 x2 : Int} {M : xM} {Q : xM → Prop} (hs : CSh e) (h :
    (rg x2 ∧ rg (M 2 0)) ∧ (((M 2 0) ≤ x2 → 
      (C_Ty_settlePlain_2 e d (x1 + 1) M Q)) ∧ 
    (¬ ((M 2 0) ≤ x2) → 
      (C_Ty_settlePlainOf e d x2 M (fun M1 => 
      C_Ty_settlePlain_10 e d x1 (x2 + 1) M1 Q))))) : C_Ty_settlePlain_10 e d x1 x2 M Q := by
  refine xGo.in ?_
  refine And.intro (cob_2 hs) ?_
  refine And.intro (⟨h.1.1, h.1.2⟩) (And.intro (fun c => ?_) (fun c => ?_))
  · replace h := h.2.1 c
    exact h _
  · replace h := h.2.2 c
    refine And.intro ⟨Nat.le_of_ble_eq_true rfl, Nat.le_of_ble_eq_true rfl, cob_2 hs⟩ ?_
    refine yV_use h (fun _ M1 h => ?_)
    exact h
theorem c_Ty_settlePlain {e : yE} {d : Nat} {M : xM} {Q : xM → Prop} (h : C_Ty_settlePlain_0 e d  M Q) : C_Ty_settlePlain e (d + 1)  M Q := h _ _
def C_Ty_settlePlainOf_0 (e : yE) (d : Nat) (x1 : Int) (M : xM) (Q : xM → Prop) : Prop := ∀ (o2 o3 o4 : Option xV), xGo xft xNf xmt xtr d 63 0 [some (.inr (some 2)), some (.inl x1), o2, o3, o4] [] (yS e M) (yV e Q)
def C_Ty_settlePlainOf_4 (e : yE) (d : Nat) (x1 x2 x3 : Int) (M : xM) (Q : xM → Prop) : Prop := ∀ (o4 : Option xV), xGo xft xNf xmt xtr d 63 4 [some (.inr (some 2)), some (.inl x1), some (.inl x2), some (.inl x3), o4] [] (yS e M) (yV e Q)
def C_Ty_settlePlainOf_37 (e : yE) (d : Nat) (x1 x3 x4 : Int) (M : xM) (Q : xM → Prop) : Prop := ∀ (o2 : Option xV), xGo xft xNf xmt xtr d 63 37 [some (.inr (some 2)), some (.inl x1), o2, some (.inl x3), some (.inl x4)] [] (yS e M) (yV e Q)
theorem c_Ty_settlePlainOf_0 {e : yE} {d : Nat} {x1 : Int} {M : xM} {Q : xM → Prop} (hs : CSh e) (h :
    C_Ty_settlePlainOf_4 e d x1 (0 : Int) (0 : Int) M Q) : C_Ty_settlePlainOf_0 e d x1 M Q := by
  intro o2 o3 o4
  refine xGo.in ?_
  exact h _
theorem c_Ty_settlePlainOf_4 {e : yE} {d : Nat} {x1 x2 x3 : Int} {M : xM} {Q : xM → Prop} (hs : CSh e) (h :
    (0 ≤ x1 ∧ x1 < 8) ∧ 
    ((rg x3 ∧ rg (M 3 x1)) ∧ (((M 3 x1) ≤ x3 → 
      ((0 ≤ x1 ∧ x1 < 8) ∧ 
      (∀ M1 : xM, M1 = xup M 6 x1 x2 → 
      (Q M1)))) ∧ 
    (¬ ((M 3 x1) ≤ x3) → 
      (C_Ty_smallestBy e d x1 x3 M (fun y3 M2 => 
      (rg y3) ∧ ((y3 ≤ 0 → 
        (C_Ty_settlePlainOf_4 e d x1 x2 (x3 + 1) M2 Q)) ∧ 
      (¬ (y3 ≤ 0) → 
        ((rg x2) ∧ ((x2 = 0 → 
          (C_Ty_settlePlainOf_37 e d x1 x3 y3 M2 Q)) ∧ 
        (¬ (x2 = 0) → 
          ((rg y3 ∧ rg x2) ∧ ((x2 ≤ y3 → 
            (C_Ty_settlePlainOf_4 e d x1 x2 (x3 + 1) M2 Q)) ∧ 
          (¬ (x2 ≤ y3) → 
            (C_Ty_settlePlainOf_37 e d x1 x3 y3 M2 Q))))))))))))))) : C_Ty_settlePlainOf_4 e d x1 x2 x3 M Q := by
  intro o4
  refine xGo.in ?_
  refine And.intro (cob_2 hs) ?_
  refine And.intro (xi_ld (caa_3 hs) (h.1)) ?_
  replace h := h.2
  refine And.intro (⟨h.1.1, h.1.2⟩) (And.intro (fun c => ?_) (fun c => ?_))
  · replace h := h.2.1 c
    refine And.intro (cob_2 hs) ?_
    refine And.intro (xi_st (caa_6 hs) (h.1)) ?_
    replace h := h.2
    obtain ⟨M1, hM1⟩ : ∃ z : xM, z = xup M 6 x1 x2 := ⟨_, rfl⟩
    refine xgo_st (e := e) (M := M1) (by subst hM1; rfl) ?_
    replace h := h M1 hM1
    exact yV_ret (r := .inl 0) h
  · replace h := h.2.2 c
    refine And.intro ⟨Nat.le_of_ble_eq_true rfl, Nat.le_of_ble_eq_true rfl, cob_2 hs⟩ ?_
    refine yI_use h (fun y3 M2 h => ?_)
    refine And.intro (h.1) (And.intro (fun c => ?_) (fun c => ?_))
    · replace h := h.2.1 c
      exact h _
    · replace h := h.2.2 c
      refine And.intro (h.1) (And.intro (fun c => ?_) (fun c => ?_))
      · replace h := h.2.1 c
        exact h _
      · replace h := h.2.2 c
        refine And.intro (⟨h.1.1, h.1.2⟩) (And.intro (fun c => ?_) (fun c => ?_))
        · replace h := h.2.1 c
          exact h _
        · replace h := h.2.2 c
          exact h _
theorem c_Ty_settlePlainOf_37 {e : yE} {d : Nat} {x1 x3 x4 : Int} {M : xM} {Q : xM → Prop} (hs : CSh e) (h :
    (0 ≤ x1 ∧ x1 < 8) ∧ 
    (∀ M1 : xM, M1 = xup M 7 x1 x3 → 
    (C_Ty_settlePlainOf_4 e d x1 x4 (x3 + 1) M1 Q))) : C_Ty_settlePlainOf_37 e d x1 x3 x4 M Q := by
  intro o2
  refine xGo.in ?_
  refine And.intro (cob_2 hs) ?_
  refine And.intro (xi_st (caa_7 hs) (h.1)) ?_
  replace h := h.2
  obtain ⟨M1, hM1⟩ : ∃ z : xM, z = xup M 7 x1 x3 := ⟨_, rfl⟩
  refine xgo_st (e := e) (M := M1) (by subst hM1; rfl) ?_
  replace h := h M1 hM1
  exact h _
theorem c_Ty_settlePlainOf {e : yE} {d : Nat} {x1 : Int} {M : xM} {Q : xM → Prop} (h : C_Ty_settlePlainOf_0 e d x1 M Q) : C_Ty_settlePlainOf e (d + 1) x1 M Q := h _ _ _
def C_Ty_smallestBy_0 (e : yE) (d : Nat) (x1 x2 : Int) (M : xM) (Q : Int → xM → Prop) : Prop := ∀ (o3 o4 o5 : Option xV), xGo xft xNf xmt xtr d 64 0 [some (.inr (some 2)), some (.inl x1), some (.inl x2), o3, o4, o5] [] (yS e M) (yI e Q)
def C_Ty_smallestBy_5 (e : yE) (d : Nat) (x1 x2 x3 x4 : Int) (M : xM) (Q : Int → xM → Prop) : Prop := ∀ (o5 : Option xV), xGo xft xNf xmt xtr d 64 5 [some (.inr (some 2)), some (.inl x1), some (.inl x2), some (.inl x3), some (.inl x4), o5] [] (yS e M) (yI e Q)
theorem c_Ty_smallestBy_0 {e : yE} {d : Nat} {x1 x2 : Int} {M : xM} {Q : Int → xM → Prop} (hs : CSh e) (h :
    C_Ty_smallestBy_5 e d x1 x2 (1 : Int) (0 : Int) M Q) : C_Ty_smallestBy_0 e d x1 x2 M Q := by
  intro o3 o4 o5
  refine xGo.in ?_
  exact h _
theorem c_Ty_smallestBy_5 {e : yE} {d : Nat} {x1 x2 x3 x4 : Int} {M : xM} {Q : Int → xM → Prop} (hs : CSh e) (h :
    C_Ty_partsOf e d x1 x2 M (fun y2 M1 => 
    (rg x4 ∧ rg y2) ∧ ((y2 ≤ x4 → 
      (Q x3 M1)) ∧ 
    (¬ (y2 ≤ x4) → 
      (C_Ty_partTypeOf e d x1 x2 x4 M1 (fun y4 M3 => 
      (0 ≤ y4 ∧ y4 < 8) ∧ 
      ((rg (M3 6 y4)) ∧ ((¬ (M3 6 y4) = 0 → 
        (C_Ty_smallestBy_5 e d x1 x2 (x3 + (M3 6 y4)) (x4 + 1) M3 Q)) ∧ 
      (¬ (¬ (M3 6 y4) = 0) → 
        (Q (0 : Int) M3)))))))))) : C_Ty_smallestBy_5 e d x1 x2 x3 x4 M Q := by
  intro o5
  refine xGo.in ?_
  refine And.intro ⟨Nat.le_of_ble_eq_true rfl, Nat.le_of_ble_eq_true rfl, cob_2 hs⟩ ?_
  refine yI_use h (fun y2 M1 h => ?_)
  refine And.intro (⟨h.1.1, h.1.2⟩) (And.intro (fun c => ?_) (fun c => ?_))
  · replace h := h.2.1 c
    exact yI_ret h
  · replace h := h.2.2 c
    refine And.intro (cob_2 hs) ?_
    refine And.intro ⟨Nat.le_of_ble_eq_true rfl, Nat.le_of_ble_eq_true rfl, cob_2 hs⟩ ?_
    refine yI_use h (fun y4 M3 h => ?_)
    refine And.intro (xi_ld (caa_6 hs) (h.1)) ?_
    replace h := h.2
    refine And.intro (h.1) (And.intro (fun c => ?_) (fun c => ?_))
    · replace h := h.2.1 c
      exact h _
    · replace h := h.2.2 c
      exact yI_ret h
theorem c_Ty_smallestBy {e : yE} {d : Nat} {x1 : Int} {x2 : Int} {M : xM} {Q : Int → xM → Prop} (h : C_Ty_smallestBy_0 e d x1 x2 M Q) : C_Ty_smallestBy e (d + 1) x1 x2 M Q := h _ _ _
def C_Wa_clear_0 (e : yE) (d : Nat) (k : Nat) (M : xM) (Q : xM → Prop) : Prop := xGo xft xNf xmt xtr d 66 0 [some (.inr (some k))] [] (yS e M) (yV e Q)
theorem c_Wa_clear_0 {e : yE} {d : Nat} {k : Nat} {M : xM} {Q : xM → Prop} (hs : CSh e) (hk : XSh8 k e) (h :
    C_Ar_fill e d (k + 1) 16 (-1 : Int) M (fun M1 => 
    ∀ M2 : xM, M2 = xup M1 k 2 (0 : Int) → 
    (∀ M3 : xM, M3 = xup M2 k 3 (0 : Int) → 
    (Q M3)))) : C_Wa_clear_0 e d k M Q := by
  refine xGo.in ?_
  refine And.intro (ob8 hk) ?_
  refine And.intro ⟨Nat.le_of_ble_eq_true rfl, Nat.le_of_ble_eq_true rfl, trivial⟩ ?_
  refine yV_use h (fun _ M1 h => ?_)
  refine And.intro (ob8 hk) ?_
  obtain ⟨M2, hM2⟩ : ∃ z : xM, z = xup M1 k 2 (0 : Int) := ⟨_, rfl⟩
  refine xgo_st (e := e) (M := M2) (by subst hM2; rfl) ?_
  replace h := h M2 hM2
  refine And.intro (ob8 hk) ?_
  obtain ⟨M3, hM3⟩ : ∃ z : xM, z = xup M2 k 3 (0 : Int) := ⟨_, rfl⟩
  refine xgo_st (e := e) (M := M3) (by subst hM3; rfl) ?_
  replace h := h M3 hM3
  exact yV_ret (r := .inl 0) h
theorem c_Wa_clear {e : yE} {d : Nat} {k : Nat} {M : xM} {Q : xM → Prop} (h : C_Wa_clear_0 e d k M Q) : C_Wa_clear e (d + 1) k M Q := h
def C_Wa_follow_0 (e : yE) (d : Nat) (k : Nat) (a1 : Nat) (a2 : Nat) (n2 : Nat) (M : xM) (Q : Int → xM → Prop) : Prop := ∀ (o3 o4 o5 : Option xV), xGo xft xNf xmt xtr d 67 0 [some (.inr (some k)), some (.inr (some a1)), some (.inr (some a2)), o3, o4, o5] [] (yS e M) (yI e Q)
def C_Wa_follow_29 (e : yE) (d : Nat) (k : Nat) (a1 : Nat) (a2 : Nat) (n2 : Nat) (x4 x5 : Int) (M : xM) (Q : Int → xM → Prop) : Prop := ∀ (o2 : Option xV), xGo xft xNf xmt xtr d 67 29 [some (.inr (some k)), some (.inr (some a1)), o2, some (.inr (some (a1 + 5))), some (.inl x4), some (.inl x5)] [] (yS e M) (yI e Q)
def C_Wa_follow_100 (e : yE) (d : Nat) (k : Nat) (a1 : Nat) (a2 : Nat) (n2 : Nat) (x4 : Int) (M : xM) (Q : Int → xM → Prop) : Prop := ∀ (o1 o2 o5 : Option xV), xGo xft xNf xmt xtr d 67 100 [some (.inr (some k)), o1, o2, some (.inr (some (a1 + 5))), some (.inl x4), o5] [] (yS e M) (yI e Q)
theorem c_Wa_follow_0 {e : yE} {d : Nat} {k : Nat} {a1 : Nat} {a2 : Nat} {n2 : Nat} {M : xM} {Q : Int → xM → Prop} (hs : CSh e) (hk : XSh8 k e) (h1 : XSh3 a1 e) (h2 : yA e a2 1 n2) (h :
    C_Wa_clear e d k M (fun M1 => 
    (¬ a2 = k + 2 ∧ (0 ≤ (0 : Int) ∧ 0 ≤ (0 : Int) ∧ 0 ≤ (M1 a1 0) ∧ (0 : Int) + (M1 a1 0) ≤ (n2 : Int) ∧ (0 : Int) + (M1 a1 0) ≤ 360) ∧ n2 ≤ 50000000 ∧ 360 ≤ 50000000) ∧ 
    (∀ M2 : xM, M2 = xcpy M1 a2 (0 : Int) (k + 2) (0 : Int) (M1 a1 0) → 
    (C_Wa_follow_29 e d k a1 a2 n2 (0 : Int) (0 : Int) M2 Q)))) : C_Wa_follow_0 e d k a1 a2 n2 M Q := by
  intro o3 o4 o5
  refine xGo.in ?_
  refine And.intro ⟨Nat.le_of_ble_eq_true rfl, Nat.le_of_ble_eq_true rfl, ob8 hk⟩ ?_
  refine yV_use h (fun _ M1 h => ?_)
  refine And.intro (ob8 hk) ?_
  refine And.intro (ob3 h1) ?_
  refine And.intro (xi_cpy (h2) (a8_2 hk) h.1.1 h.1.2.1 h.1.2.2 (Nat.le_of_ble_eq_true rfl)) ?_
  replace h := h.2
  obtain ⟨M2, hM2⟩ : ∃ z : xM, z = xcpy M1 a2 (0 : Int) (k + 2) (0 : Int) (M1 a1 0) := ⟨_, rfl⟩
  refine xgo_st (e := e) (M := M2) (by subst hM2; rfl) ?_
  replace h := h M2 hM2
  refine And.intro (ob3 h1) ?_
  exact h _
theorem c_Wa_follow_29 {e : yE} {d : Nat} {k : Nat} {a1 : Nat} {a2 : Nat} {n2 : Nat} {x4 x5 : Int} {M : xM} {Q : Int → xM → Prop} (hs : CSh e) (hk : XSh8 k e) (h1 : XSh3 a1 e) (h2 : yA e a2 1 n2) (h :
    (rg x5) ∧ (((120 : Int) ≤ x5 → 
      (Q (-1 : Int) M)) ∧ 
    (¬ ((120 : Int) ≤ x5) → 
      ((0 ≤ x4 ∧ x4 < 120) ∧ 
      ((rg (M (a1 + 8) x4)) ∧ (((M (a1 + 8) x4) = (3 : Int) → 
        (Q (-1 : Int) M)) ∧ 
      (¬ ((M (a1 + 8) x4) = (3 : Int)) → 
        ((0 ≤ x4 ∧ x4 < 120) ∧ 
        ((rg (M (a1 + 8) x4)) ∧ ((¬ (M (a1 + 8) x4) = 0 → 
          ((0 ≤ x4 ∧ x4 < 120) ∧ 
          ((rg (M (a1 + 8) x4)) ∧ (((M (a1 + 8) x4) = (2 : Int) → 
            (C_Wa_follow_100 e d k a1 a2 n2 x4 M Q)) ∧ 
          (¬ ((M (a1 + 8) x4) = (2 : Int)) → 
            (C_Wa_asks e d k a1 x4 M (fun y2 M1 => 
            (rg y2) ∧ ((y2 = 0 → 
              ((0 ≤ x4 ∧ x4 < 120) ∧ 
              (C_Wa_follow_29 e d k a1 a2 n2 (M1 (a1 + 12) x4) (x5 + 1) M1 Q))) ∧ 
            (¬ (y2 = 0) → 
              (C_Wa_follow_100 e d k a1 a2 n2 x4 M1 Q)))))))))) ∧ 
        (¬ (¬ (M (a1 + 8) x4) = 0) → 
          (∀ M3 : xM, M3 = xup M k 2 ((M k 2) + (1 : Int)) → 
          (C_Wa_branchOf e d k (a1 + 5) x4 M3 (fun y5 M4 => 
          C_Wa_follow_29 e d k a1 a2 n2 y5 (x5 + 1) M4 Q)))))))))))))) : C_Wa_follow_29 e d k a1 a2 n2 x4 x5 M Q := by
  intro o2
  refine xGo.in ?_
  refine And.intro (⟨h.1, rg_lit (by decide)⟩) (And.intro (fun c => ?_) (fun c => ?_))
  · replace h := h.2.1 c
    exact yI_ret h
  · replace h := h.2.2 c
    refine And.intro (ob6 (t3 h1)) ?_
    refine And.intro (xi_ld (a6_3 (t3 h1)) (h.1)) ?_
    replace h := h.2
    refine And.intro (⟨h.1, rg_lit (by decide)⟩) (And.intro (fun c => ?_) (fun c => ?_))
    · replace h := h.2.1 c
      exact yI_ret h
    · replace h := h.2.2 c
      refine And.intro (ob6 (t3 h1)) ?_
      refine And.intro (xi_ld (a6_3 (t3 h1)) (h.1)) ?_
      replace h := h.2
      refine And.intro (h.1) (And.intro (fun c => ?_) (fun c => ?_))
      · replace h := h.2.1 c
        refine And.intro (ob6 (t3 h1)) ?_
        refine And.intro (xi_ld (a6_3 (t3 h1)) (h.1)) ?_
        replace h := h.2
        refine And.intro (⟨h.1, rg_lit (by decide)⟩) (And.intro (fun c => ?_) (fun c => ?_))
        · replace h := h.2.1 c
          exact h _ _ _
        · replace h := h.2.2 c
          refine And.intro ⟨Nat.le_of_ble_eq_true rfl, Nat.le_of_ble_eq_true rfl, ob8 hk⟩ ?_
          refine yI_use h (fun y2 M1 h => ?_)
          refine And.intro (h.1) (And.intro (fun c => ?_) (fun c => ?_))
          · replace h := h.2.1 c
            refine And.intro (ob6 (t3 h1)) ?_
            refine And.intro (xi_ld (a6_7 (t3 h1)) (h.1)) ?_
            replace h := h.2
            exact h _
          · replace h := h.2.2 c
            exact h _ _ _
      · replace h := h.2.2 c
        refine And.intro (ob8 hk) ?_
        refine And.intro (ob8 hk) ?_
        obtain ⟨M3, hM3⟩ : ∃ z : xM, z = xup M k 2 ((M k 2) + (1 : Int)) := ⟨_, rfl⟩
        refine xgo_st (e := e) (M := M3) (by subst hM3; rfl) ?_
        replace h := h M3 hM3
        refine And.intro ⟨Nat.le_of_ble_eq_true rfl, Nat.le_of_ble_eq_true rfl, ob8 hk⟩ ?_
        refine yI_use h (fun y5 M4 h => ?_)
        exact h _
theorem c_Wa_follow_100 {e : yE} {d : Nat} {k : Nat} {a1 : Nat} {a2 : Nat} {n2 : Nat} {x4 : Int} {M : xM} {Q : Int → xM → Prop} (hs : CSh e) (hk : XSh8 k e) (h1 : XSh3 a1 e) (h2 : yA e a2 1 n2) (h :
    C_Wa_bind e d k (a1 + 5) x4 M (fun M1 => 
    (0 ≤ x4 ∧ x4 < 120) ∧ 
    (Q (M1 (a1 + 9) x4) M1))) : C_Wa_follow_100 e d k a1 a2 n2 x4 M Q := by
  intro o1 o2 o5
  refine xGo.in ?_
  refine And.intro ⟨Nat.le_of_ble_eq_true rfl, Nat.le_of_ble_eq_true rfl, ob8 hk⟩ ?_
  refine yV_use h (fun _ M1 h => ?_)
  refine And.intro (ob6 (t3 h1)) ?_
  refine And.intro (xi_ld (a6_4 (t3 h1)) (h.1)) ?_
  replace h := h.2
  exact yI_ret h
theorem c_Wa_follow {e : yE} {d : Nat} {k : Nat} {a1 : Nat} {a2 : Nat} {n2 : Nat} {M : xM} {Q : Int → xM → Prop} (h : C_Wa_follow_0 e d k a1 a2 n2 M Q) : C_Wa_follow e (d + 1) k a1 a2 n2 M Q := h _ _ _
def C_Wa_branchOf_0 (e : yE) (d : Nat) (k : Nat) (a1 : Nat) (x2 : Int) (M : xM) (Q : Int → xM → Prop) : Prop := ∀ (o3 o4 o5 : Option xV), xGo xft xNf xmt xtr d 68 0 [some (.inr (some k)), some (.inr (some a1)), some (.inl x2), o3, o4, o5] [] (yS e M) (yI e Q)
def C_Wa_branchOf_33 (e : yE) (d : Nat) (k : Nat) (a1 : Nat) (x3 x4 x5 : Int) (M : xM) (Q : Int → xM → Prop) : Prop := ∀ (o2 : Option xV), xGo xft xNf xmt xtr d 68 33 [some (.inr (some k)), some (.inr (some a1)), o2, some (.inl x3), some (.inl x4), some (.inl x5)] [] (yS e M) (yI e Q)
def C_Wa_branchOf_65 (e : yE) (d : Nat) (k : Nat) (a1 : Nat) (x3 x4 : Int) (M : xM) (Q : Int → xM → Prop) : Prop := ∀ (o2 o5 : Option xV), xGo xft xNf xmt xtr d 68 65 [some (.inr (some k)), some (.inr (some a1)), o2, some (.inl x3), some (.inl x4), o5] [] (yS e M) (yI e Q)
theorem c_Wa_branchOf_0 {e : yE} {d : Nat} {k : Nat} {a1 : Nat} {x2 : Int} {M : xM} {Q : Int → xM → Prop} (hs : CSh e) (hk : XSh8 k e) (h1 : XSh6 a1 e) (h :
    (0 ≤ x2 ∧ x2 < 120) ∧ 
    ((0 ≤ (M (a1 + 5) x2) ∧ (M (a1 + 5) x2) < 360) ∧ 
    ((0 ≤ x2 ∧ x2 < 120) ∧ 
    ((0 ≤ x2 ∧ x2 < 120) ∧ 
    (C_Wa_branchOf_33 e d k a1 (M (k + 2) (M (a1 + 5) x2)) (M (a1 + 7) x2) (((M (a1 + 7) x2) + (M (a1 + 8) x2)) - (1 : Int)) M Q))))) : C_Wa_branchOf_0 e d k a1 x2 M Q := by
  intro o3 o4 o5
  refine xGo.in ?_
  refine And.intro (ob8 hk) ?_
  refine And.intro (ob6 h1) ?_
  refine And.intro (xi_ld (a6_5 h1) (h.1)) ?_
  replace h := h.2
  refine And.intro (xi_ld (a8_2 hk) (h.1)) ?_
  replace h := h.2
  refine And.intro (ob6 h1) ?_
  refine And.intro (xi_ld (a6_7 h1) (h.1)) ?_
  replace h := h.2
  refine And.intro (ob6 h1) ?_
  refine And.intro (xi_ld (a6_8 h1) (h.1)) ?_
  replace h := h.2
  exact h _
theorem c_Wa_branchOf_33 {e : yE} {d : Nat} {k : Nat} {a1 : Nat} {x3 x4 x5 : Int} {M : xM} {Q : Int → xM → Prop} (hs : CSh e) (hk : XSh8 k e) (h1 : XSh6 a1 e) (h :
    (rg x4 ∧ rg x5) ∧ ((x5 ≤ x4 → 
      (C_Wa_branchOf_65 e d k a1 x3 x4 M Q)) ∧ 
    (¬ (x5 ≤ x4) → 
      ((0 ≤ x4 ∧ x4 < 120) ∧ 
      ((0 ≤ x3 ∧ x3 < 300) ∧ 
      ((rg (M (a1 + 9) x4) ∧ rg (M 11 x3)) ∧ (((M (a1 + 9) x4) = (M 11 x3) → 
        (C_Wa_branchOf_65 e d k a1 x3 x4 M Q)) ∧ 
      (¬ ((M (a1 + 9) x4) = (M 11 x3)) → 
        (C_Wa_branchOf_33 e d k a1 x3 (x4 + 1) x5 M Q))))))))) : C_Wa_branchOf_33 e d k a1 x3 x4 x5 M Q := by
  intro o2
  refine xGo.in ?_
  refine And.intro (⟨h.1.1, h.1.2⟩) (And.intro (fun c => ?_) (fun c => ?_))
  · replace h := h.2.1 c
    exact h _ _
  · replace h := h.2.2 c
    refine And.intro (ob6 h1) ?_
    refine And.intro (xi_ld (a6_9 h1) (h.1)) ?_
    replace h := h.2
    refine And.intro (ob8 hk) ?_
    refine And.intro (ob5 (c5_8 hs)) ?_
    refine And.intro (xi_ld (caa_11 hs) (h.1)) ?_
    replace h := h.2
    refine And.intro (⟨h.1.1, h.1.2⟩) (And.intro (fun c => ?_) (fun c => ?_))
    · replace h := h.2.1 c
      exact h _ _
    · replace h := h.2.2 c
      exact h _
theorem c_Wa_branchOf_65 {e : yE} {d : Nat} {k : Nat} {a1 : Nat} {x3 x4 : Int} {M : xM} {Q : Int → xM → Prop} (hs : CSh e) (hk : XSh8 k e) (h1 : XSh6 a1 e) (h :
    (0 ≤ x4 ∧ x4 < 120) ∧ 
    ((rg (M (a1 + 10) x4)) ∧ ((¬ (M (a1 + 10) x4) = 0 → 
      (Q x4 M)) ∧ 
    (¬ (¬ (M (a1 + 10) x4) = 0) → 
      ((0 ≤ x4 ∧ x4 < 120) ∧ 
      (C_Wa_openParts e d k x3 (M (a1 + 11) x4) M (fun M1 => 
      Q x4 M1))))))) : C_Wa_branchOf_65 e d k a1 x3 x4 M Q := by
  intro o2 o5
  refine xGo.in ?_
  refine And.intro (ob6 h1) ?_
  refine And.intro (xi_ldb (a6_10 h1) (h.1)) ?_
  replace h := h.2
  refine And.intro (h.1) (And.intro (fun c => ?_) (fun c => ?_))
  · replace h := h.2.1 c
    exact yI_ret h
  · replace h := h.2.2 c
    refine And.intro (ob6 h1) ?_
    refine And.intro (xi_ld (a6_11 h1) (h.1)) ?_
    replace h := h.2
    refine And.intro ⟨Nat.le_of_ble_eq_true rfl, Nat.le_of_ble_eq_true rfl, ob8 hk⟩ ?_
    refine yV_use h (fun _ M1 h => ?_)
    exact yI_ret h
theorem c_Wa_branchOf {e : yE} {d : Nat} {k : Nat} {a1 : Nat} {x2 : Int} {M : xM} {Q : Int → xM → Prop} (h : C_Wa_branchOf_0 e d k a1 x2 M Q) : C_Wa_branchOf e (d + 1) k a1 x2 M Q := h _ _ _
def C_Wa_openParts_0 (e : yE) (d : Nat) (k : Nat) (x1 x2 : Int) (M : xM) (Q : xM → Prop) : Prop := ∀ (o3 : Option xV), xGo xft xNf xmt xtr d 69 0 [some (.inr (some k)), some (.inl x1), some (.inl x2), o3] [] (yS e M) (yV e Q)
def C_Wa_openParts_2 (e : yE) (d : Nat) (k : Nat) (x1 x2 x3 : Int) (M : xM) (Q : xM → Prop) : Prop := xGo xft xNf xmt xtr d 69 2 [some (.inr (some k)), some (.inl x1), some (.inl x2), some (.inl x3)] [] (yS e M) (yV e Q)
theorem c_Wa_openParts_0 {e : yE} {d : Nat} {k : Nat} {x1 x2 : Int} {M : xM} {Q : xM → Prop} (hs : CSh e) (hk : XSh8 k e) (h :
    C_Wa_openParts_2 e d k x1 x2 (0 : Int) M Q) : C_Wa_openParts_0 e d k x1 x2 M Q := by
  intro o3
  refine xGo.in ?_
  exact h
theorem c_Wa_openParts_2 {e : yE} {d : Nat} {k : Nat} {x1 x2 x3 : Int} {M : xM} {Q : xM → Prop} (hs : CSh e) (hk : XSh8 k e) (h :
    (0 ≤ x1 ∧ x1 < 300) ∧ 
    ((rg x3 ∧ rg (M 13 x1)) ∧ (((M 13 x1) ≤ x3 → 
      (Q M)) ∧ 
    (¬ ((M 13 x1) ≤ x3) → 
      (C_Tm_partOf e d 8 x1 x3 M (fun y2 M1 => 
      (0 ≤ (x2 + x3) ∧ (x2 + x3) < 360) ∧ 
      (∀ M3 : xM, M3 = xup M1 (k + 2) (x2 + x3) y2 → 
      (C_Wa_openParts_2 e d k x1 x2 (x3 + 1) M3 Q)))))))) : C_Wa_openParts_2 e d k x1 x2 x3 M Q := by
  refine xGo.in ?_
  refine And.intro (ob8 hk) ?_
  refine And.intro (ob5 (c5_8 hs)) ?_
  refine And.intro (xi_ld (caa_13 hs) (h.1)) ?_
  replace h := h.2
  refine And.intro (⟨h.1.1, h.1.2⟩) (And.intro (fun c => ?_) (fun c => ?_))
  · replace h := h.2.1 c
    exact yV_ret (r := .inl 0) h
  · replace h := h.2.2 c
    refine And.intro (ob8 hk) ?_
    refine And.intro (ob8 hk) ?_
    refine And.intro ⟨Nat.le_of_ble_eq_true rfl, Nat.le_of_ble_eq_true rfl, ob5 (c5_8 hs)⟩ ?_
    refine yI_use h (fun y2 M1 h => ?_)
    refine And.intro (xi_st (a8_2 hk) (h.1)) ?_
    replace h := h.2
    obtain ⟨M3, hM3⟩ : ∃ z : xM, z = xup M1 (k + 2) (x2 + x3) y2 := ⟨_, rfl⟩
    refine xgo_st (e := e) (M := M3) (by subst hM3; rfl) ?_
    replace h := h M3 hM3
    exact h
theorem c_Wa_openParts {e : yE} {d : Nat} {k : Nat} {x1 : Int} {x2 : Int} {M : xM} {Q : xM → Prop} (h : C_Wa_openParts_0 e d k x1 x2 M Q) : C_Wa_openParts e (d + 1) k x1 x2 M Q := h _
def C_Wa_asks_0 (e : yE) (d : Nat) (k : Nat) (a1 : Nat) (x2 : Int) (M : xM) (Q : Int → xM → Prop) : Prop := ∀ (o3 o4 o5 : Option xV), xGo xft xNf xmt xtr d 70 0 [some (.inr (some k)), some (.inr (some a1)), some (.inl x2), o3, o4, o5] [] (yS e M) (yI e Q)
theorem c_Wa_asks_0 {e : yE} {d : Nat} {k : Nat} {a1 : Nat} {x2 : Int} {M : xM} {Q : Int → xM → Prop} (hs : CSh e) (hk : XSh8 k e) (h1 : XSh3 a1 e) (h :
    ∀ M1 : xM, M1 = xup M k 3 ((M k 3) + (1 : Int)) → 
    ((0 ≤ x2 ∧ x2 < 120) ∧ 
    ((0 ≤ (M1 (a1 + 9) x2) ∧ (M1 (a1 + 9) x2) < 12) ∧ 
    (C_Tr_placeOfName e d (a1 + 5) x2 (M1 (a1 + 3) (M1 (a1 + 9) x2)) M1 (fun y3 M2 => 
    (0 ≤ (M1 (a1 + 9) x2) ∧ (M1 (a1 + 9) x2) < 12) ∧ 
    (C_Tr_placeOfName e d (a1 + 5) x2 (M2 (a1 + 4) (M1 (a1 + 9) x2)) M2 (fun y5 M4 => 
    (rg y3) ∧ ((y3 = (-1 : Int) → 
      (Q (0 : Int) M4)) ∧ 
    (¬ (y3 = (-1 : Int)) → 
      ((rg y5) ∧ ((y5 = (-1 : Int) → 
        (Q (0 : Int) M4)) ∧ 
      (¬ (y5 = (-1 : Int)) → 
        ((0 ≤ y3 ∧ y3 < 360) ∧ 
        ((0 ≤ (M4 (k + 2) y3) ∧ (M4 (k + 2) y3) < 300) ∧ 
        ((0 ≤ y5 ∧ y5 < 360) ∧ 
        ((0 ≤ (M4 (k + 2) y5) ∧ (M4 (k + 2) y5) < 300) ∧ 
        ((rg (M4 11 (M4 (k + 2) y3)) ∧ rg (M4 11 (M4 (k + 2) y5))) ∧ (((M4 11 (M4 (k + 2) y5)) ≤ (M4 11 (M4 (k + 2) y3)) → 
          (Q (0 : Int) M4)) ∧ 
        (¬ ((M4 11 (M4 (k + 2) y5)) ≤ (M4 11 (M4 (k + 2) y3))) → 
          (Q (1 : Int) M4)))))))))))))))))))) : C_Wa_asks_0 e d k a1 x2 M Q := by
  intro o3 o4 o5
  refine xGo.in ?_
  refine And.intro (ob8 hk) ?_
  refine And.intro (ob8 hk) ?_
  obtain ⟨M1, hM1⟩ : ∃ z : xM, z = xup M k 3 ((M k 3) + (1 : Int)) := ⟨_, rfl⟩
  refine xgo_st (e := e) (M := M1) (by subst hM1; rfl) ?_
  replace h := h M1 hM1
  refine And.intro (ob3 h1) ?_
  refine And.intro (ob6 (t3 h1)) ?_
  refine And.intro (xi_ld (a6_4 (t3 h1)) (h.1)) ?_
  replace h := h.2
  refine And.intro (ob3 h1) ?_
  refine And.intro (ob3 h1) ?_
  refine And.intro (xi_ld (a3_3 h1) (h.1)) ?_
  replace h := h.2
  refine And.intro ⟨Nat.le_of_ble_eq_true rfl, Nat.le_of_ble_eq_true rfl, ob6 (t3 h1)⟩ ?_
  refine yI_use h (fun y3 M2 h => ?_)
  refine And.intro (ob3 h1) ?_
  refine And.intro (ob3 h1) ?_
  refine And.intro (xi_ld (a3_4 h1) (h.1)) ?_
  replace h := h.2
  refine And.intro ⟨Nat.le_of_ble_eq_true rfl, Nat.le_of_ble_eq_true rfl, ob6 (t3 h1)⟩ ?_
  refine yI_use h (fun y5 M4 h => ?_)
  refine And.intro (⟨h.1, rg_lit (by decide)⟩) (And.intro (fun c => ?_) (fun c => ?_))
  · replace h := h.2.1 c
    exact And.intro (by decide) (yI_ret h)
  · replace h := h.2.2 c
    refine And.intro (⟨h.1, rg_lit (by decide)⟩) (And.intro (fun c => ?_) (fun c => ?_))
    · replace h := h.2.1 c
      exact And.intro (by decide) (yI_ret h)
    · replace h := h.2.2 c
      refine And.intro (ob8 hk) ?_
      refine And.intro (ob5 (c5_8 hs)) ?_
      refine And.intro (ob8 hk) ?_
      refine And.intro (xi_ld (a8_2 hk) (h.1)) ?_
      replace h := h.2
      refine And.intro (xi_ld (caa_11 hs) (h.1)) ?_
      replace h := h.2
      refine And.intro (ob8 hk) ?_
      refine And.intro (ob5 (c5_8 hs)) ?_
      refine And.intro (ob8 hk) ?_
      refine And.intro (xi_ld (a8_2 hk) (h.1)) ?_
      replace h := h.2
      refine And.intro (xi_ld (caa_11 hs) (h.1)) ?_
      replace h := h.2
      refine And.intro (⟨h.1.1, h.1.2⟩) (And.intro (fun c => ?_) (fun c => ?_))
      · replace h := h.2.1 c
        exact And.intro (by decide) (yI_ret h)
      · replace h := h.2.2 c
        exact And.intro (by decide) (yI_ret h)
theorem c_Wa_asks {e : yE} {d : Nat} {k : Nat} {a1 : Nat} {x2 : Int} {M : xM} {Q : Int → xM → Prop} (h : C_Wa_asks_0 e d k a1 x2 M Q) : C_Wa_asks e (d + 1) k a1 x2 M Q := h _ _ _
def C_Wa_bind_0 (e : yE) (d : Nat) (k : Nat) (a1 : Nat) (x2 : Int) (M : xM) (Q : xM → Prop) : Prop := ∀ (o3 o4 : Option xV), xGo xft xNf xmt xtr d 71 0 [some (.inr (some k)), some (.inr (some a1)), some (.inl x2), o3, o4] [] (yS e M) (yV e Q)
def C_Wa_bind_2 (e : yE) (d : Nat) (k : Nat) (a1 : Nat) (x2 x3 : Int) (M : xM) (Q : xM → Prop) : Prop := ∀ (o4 : Option xV), xGo xft xNf xmt xtr d 71 2 [some (.inr (some k)), some (.inr (some a1)), some (.inl x2), some (.inl x3), o4] [] (yS e M) (yV e Q)
theorem c_Wa_bind_0 {e : yE} {d : Nat} {k : Nat} {a1 : Nat} {x2 : Int} {M : xM} {Q : xM → Prop} (hs : CSh e) (hk : XSh8 k e) (h1 : XSh6 a1 e) (h :
    C_Wa_bind_2 e d k a1 x2 (0 : Int) M Q) : C_Wa_bind_0 e d k a1 x2 M Q := by
  intro o3 o4
  refine xGo.in ?_
  exact h _
theorem c_Wa_bind_2 {e : yE} {d : Nat} {k : Nat} {a1 : Nat} {x2 x3 : Int} {M : xM} {Q : xM → Prop} (hs : CSh e) (hk : XSh8 k e) (h1 : XSh6 a1 e) (h :
    (rg x3) ∧ (((16 : Int) ≤ x3 → 
      (Q M)) ∧ 
    (¬ ((16 : Int) ≤ x3) → 
      (C_Tr_placeOfName e d a1 x2 x3 M (fun y2 M1 => 
      (rg y2) ∧ ((y2 = (-1 : Int) → 
        (C_Wa_bind_2 e d k a1 x2 (x3 + 1) M1 Q)) ∧ 
      (¬ (y2 = (-1 : Int)) → 
        ((0 ≤ y2 ∧ y2 < 360) ∧ 
        ((0 ≤ x3 ∧ x3 < 16) ∧ 
        (∀ M3 : xM, M3 = xup M1 (k + 1) x3 (M1 (k + 2) y2) → 
        (C_Wa_bind_2 e d k a1 x2 (x3 + 1) M3 Q))))))))))) : C_Wa_bind_2 e d k a1 x2 x3 M Q := by
  intro o4
  refine xGo.in ?_
  refine And.intro (⟨h.1, rg_lit (by decide)⟩) (And.intro (fun c => ?_) (fun c => ?_))
  · replace h := h.2.1 c
    exact yV_ret (r := .inl 0) h
  · replace h := h.2.2 c
    refine And.intro ⟨Nat.le_of_ble_eq_true rfl, Nat.le_of_ble_eq_true rfl, ob6 h1⟩ ?_
    refine yI_use h (fun y2 M1 h => ?_)
    refine And.intro (⟨h.1, rg_lit (by decide)⟩) (And.intro (fun c => ?_) (fun c => ?_))
    · replace h := h.2.1 c
      exact h _
    · replace h := h.2.2 c
      refine And.intro (ob8 hk) ?_
      refine And.intro (ob8 hk) ?_
      refine And.intro (xi_ld (a8_2 hk) (h.1)) ?_
      replace h := h.2
      refine And.intro (xi_st (a8_1 hk) (h.1)) ?_
      replace h := h.2
      obtain ⟨M3, hM3⟩ : ∃ z : xM, z = xup M1 (k + 1) x3 (M1 (k + 2) y2) := ⟨_, rfl⟩
      refine xgo_st (e := e) (M := M3) (by subst hM3; rfl) ?_
      replace h := h M3 hM3
      exact h _
theorem c_Wa_bind {e : yE} {d : Nat} {k : Nat} {a1 : Nat} {x2 : Int} {M : xM} {Q : xM → Prop} (h : C_Wa_bind_0 e d k a1 x2 M Q) : C_Wa_bind e (d + 1) k a1 x2 M Q := h _ _
def C_Mf_type_0 (e : yE) (d : Nat) (M : xM) (Q : Int → xM → Prop) : Prop := xGo xft xNf xmt xtr d 73 0 [some (.inr (some 1))] [] (yS e M) (yI e Q)
theorem c_Mf_type_0 {e : yE} {d : Nat} {M : xM} {Q : Int → xM → Prop} (hs : CSh e) (h :
    C_Ty_addType e d M (fun y2 M1 => 
    Q y2 M1)) : C_Mf_type_0 e d  M Q := by
  refine xGo.in ?_
  refine And.intro (cob_1 hs) ?_
  refine And.intro ⟨Nat.le_of_ble_eq_true rfl, Nat.le_of_ble_eq_true rfl, cob_2 hs⟩ ?_
  refine yI_use h (fun y2 M1 h => ?_)
  exact yI_ret h
theorem c_Mf_type {e : yE} {d : Nat} {M : xM} {Q : Int → xM → Prop} (h : C_Mf_type_0 e d  M Q) : C_Mf_type e (d + 1)  M Q := h
def C_Mf_maker_0 (e : yE) (d : Nat) (x1 x2 x3 x4 x5 : Int) (M : xM) (Q : Int → xM → Prop) : Prop := xGo xft xNf xmt xtr d 74 0 [some (.inr (some 1)), some (.inl x1), some (.inl x2), some (.inl x3), some (.inl x4), some (.inl x5)] [] (yS e M) (yI e Q)
theorem c_Mf_maker_0 {e : yE} {d : Nat} {x1 x2 x3 x4 x5 : Int} {M : xM} {Q : Int → xM → Prop} (hs : CSh e) (h :
    (rg (M 8 1)) ∧ ((0 < (M 8 1) → 
      (Q (-1 : Int) M)) ∧ 
    (¬ (0 < (M 8 1)) → 
      ((rg (M 18 1)) ∧ ((0 < (M 18 1) → 
        (Q (-1 : Int) M)) ∧ 
      (¬ (0 < (M 18 1)) → 
        ((rg (M 1 4)) ∧ (((M 1 4) ≤ 0 → 
          (C_Mf_give e d x3 x4 x5 M (fun M1 => 
          C_Ty_addMaker e d x1 x2 58 3 M1 (fun y3 M2 => 
          Q y3 M2)))) ∧ 
        (¬ ((M 1 4) ≤ 0) → 
          (Q (-1 : Int) M)))))))))) : C_Mf_maker_0 e d x1 x2 x3 x4 x5 M Q := by
  refine xGo.in ?_
  refine And.intro (cob_1 hs) ?_
  refine And.intro (ob5 (c5_8 hs)) ?_
  refine And.intro (h.1) (And.intro (fun c => ?_) (fun c => ?_))
  · replace h := h.2.1 c
    exact yI_ret h
  · replace h := h.2.2 c
    refine And.intro (cob_1 hs) ?_
    refine And.intro (ob5 (c5_18 hs)) ?_
    refine And.intro (h.1) (And.intro (fun c => ?_) (fun c => ?_))
    · replace h := h.2.1 c
      exact yI_ret h
    · replace h := h.2.2 c
      refine And.intro (cob_1 hs) ?_
      refine And.intro (h.1) (And.intro (fun c => ?_) (fun c => ?_))
      · replace h := h.2.1 c
        refine And.intro ⟨Nat.le_of_ble_eq_true rfl, Nat.le_of_ble_eq_true rfl, cob_1 hs⟩ ?_
        refine yV_use h (fun _ M1 h => ?_)
        refine And.intro (cob_1 hs) ?_
        refine And.intro (cob_1 hs) ?_
        refine And.intro ⟨Nat.le_of_ble_eq_true rfl, Nat.le_of_ble_eq_true rfl, cob_2 hs⟩ ?_
        refine yI_use h (fun y3 M2 h => ?_)
        exact yI_ret h
      · replace h := h.2.2 c
        exact yI_ret h
theorem c_Mf_maker {e : yE} {d : Nat} {x1 : Int} {x2 : Int} {x3 : Int} {x4 : Int} {x5 : Int} {M : xM} {Q : Int → xM → Prop} (h : C_Mf_maker_0 e d x1 x2 x3 x4 x5 M Q) : C_Mf_maker e (d + 1) x1 x2 x3 x4 x5 M Q := h
def C_Mf_number_0 (e : yE) (d : Nat) (x1 : Int) (M : xM) (Q : Int → xM → Prop) : Prop := xGo xft xNf xmt xtr d 75 0 [some (.inr (some 1)), some (.inl x1)] [] (yS e M) (yI e Q)
theorem c_Mf_number_0 {e : yE} {d : Nat} {x1 : Int} {M : xM} {Q : Int → xM → Prop} (hs : CSh e) (h :
    C_Tm_add e d 8 (3 : Int) (0 : Int) x1 58 3 (0 : Int) M (fun y2 M1 => 
    Q y2 M1)) : C_Mf_number_0 e d x1 M Q := by
  refine xGo.in ?_
  refine And.intro (cob_1 hs) ?_
  refine And.intro (cob_1 hs) ?_
  refine And.intro ⟨Nat.le_of_ble_eq_true rfl, Nat.le_of_ble_eq_true rfl, ob5 (c5_8 hs)⟩ ?_
  refine yI_use h (fun y2 M1 h => ?_)
  exact yI_ret h
theorem c_Mf_number {e : yE} {d : Nat} {x1 : Int} {M : xM} {Q : Int → xM → Prop} (h : C_Mf_number_0 e d x1 M Q) : C_Mf_number e (d + 1) x1 M Q := h
def C_Mf_make_0 (e : yE) (d : Nat) (x1 x2 x3 x4 x5 : Int) (M : xM) (Q : Int → xM → Prop) : Prop := xGo xft xNf xmt xtr d 76 0 [some (.inr (some 1)), some (.inl x1), some (.inl x2), some (.inl x3), some (.inl x4), some (.inl x5)] [] (yS e M) (yI e Q)
theorem c_Mf_make_0 {e : yE} {d : Nat} {x1 x2 x3 x4 x5 : Int} {M : xM} {Q : Int → xM → Prop} (hs : CSh e) (h :
    C_Mf_give e d x3 x4 x5 M (fun M1 => 
    C_Mf_addMade e d 8 x1 x2 M1 (fun y3 M2 => 
    Q y3 M2))) : C_Mf_make_0 e d x1 x2 x3 x4 x5 M Q := by
  refine xGo.in ?_
  refine And.intro ⟨Nat.le_of_ble_eq_true rfl, Nat.le_of_ble_eq_true rfl, cob_1 hs⟩ ?_
  refine yV_use h (fun _ M1 h => ?_)
  refine And.intro (cob_1 hs) ?_
  refine And.intro ⟨Nat.le_of_ble_eq_true rfl, Nat.le_of_ble_eq_true rfl, cob_1 hs⟩ ?_
  refine yI_use h (fun y3 M2 h => ?_)
  exact yI_ret h
theorem c_Mf_make {e : yE} {d : Nat} {x1 : Int} {x2 : Int} {x3 : Int} {x4 : Int} {x5 : Int} {M : xM} {Q : Int → xM → Prop} (h : C_Mf_make_0 e d x1 x2 x3 x4 x5 M Q) : C_Mf_make e (d + 1) x1 x2 x3 x4 x5 M Q := h
def C_Mf_any_0 (e : yE) (d : Nat) (x1 x2 : Int) (M : xM) (Q : Int → xM → Prop) : Prop := xGo xft xNf xmt xtr d 77 0 [some (.inr (some 1)), some (.inl x1), some (.inl x2)] [] (yS e M) (yI e Q)
theorem c_Mf_any_0 {e : yE} {d : Nat} {x1 x2 : Int} {M : xM} {Q : Int → xM → Prop} (hs : CSh e) (h :
    C_Ty_isType e d x1 M (fun y2 M1 => 
    (rg y2) ∧ ((¬ y2 = 0 → 
      ((rg x2) ∧ ((¬ x2 = (-1 : Int) → 
        (C_Mf_isName e d x2 M1 (fun y4 M3 => 
        (rg y4) ∧ ((y4 = 0 → 
          (Q (-1 : Int) M3)) ∧ 
        (¬ (y4 = 0) → 
          (C_Tm_add e d 18 (1 : Int) x1 x2 58 3 (0 : Int) M3 (fun y6 M5 => 
          Q y6 M5))))))) ∧ 
      (¬ (¬ x2 = (-1 : Int)) → 
        (C_Tm_add e d 18 (0 : Int) x1 (-1 : Int) 58 3 (0 : Int) M1 (fun y8 M7 => 
        Q y8 M7)))))) ∧ 
    (¬ (¬ y2 = 0) → 
      (Q (-1 : Int) M1))))) : C_Mf_any_0 e d x1 x2 M Q := by
  refine xGo.in ?_
  refine And.intro (cob_1 hs) ?_
  refine And.intro ⟨Nat.le_of_ble_eq_true rfl, Nat.le_of_ble_eq_true rfl, cob_2 hs⟩ ?_
  refine yI_use h (fun y2 M1 h => ?_)
  refine And.intro (h.1) (And.intro (fun c => ?_) (fun c => ?_))
  · replace h := h.2.1 c
    refine And.intro (⟨h.1, rg_lit (by decide)⟩) (And.intro (fun c => ?_) (fun c => ?_))
    · replace h := h.2.1 c
      refine And.intro ⟨Nat.le_of_ble_eq_true rfl, Nat.le_of_ble_eq_true rfl, trivial⟩ ?_
      refine yI_use h (fun y4 M3 h => ?_)
      refine And.intro (h.1) (And.intro (fun c => ?_) (fun c => ?_))
      · replace h := h.2.1 c
        exact yI_ret h
      · replace h := h.2.2 c
        refine And.intro (cob_1 hs) ?_
        refine And.intro (cob_1 hs) ?_
        refine And.intro ⟨Nat.le_of_ble_eq_true rfl, Nat.le_of_ble_eq_true rfl, ob5 (c5_18 hs)⟩ ?_
        refine yI_use h (fun y6 M5 h => ?_)
        exact yI_ret h
    · replace h := h.2.2 c
      refine And.intro (cob_1 hs) ?_
      refine And.intro (cob_1 hs) ?_
      refine And.intro ⟨Nat.le_of_ble_eq_true rfl, Nat.le_of_ble_eq_true rfl, ob5 (c5_18 hs)⟩ ?_
      refine yI_use h (fun y8 M7 h => ?_)
      exact yI_ret h
  · replace h := h.2.2 c
    exact yI_ret h
theorem c_Mf_any {e : yE} {d : Nat} {x1 : Int} {x2 : Int} {M : xM} {Q : Int → xM → Prop} (h : C_Mf_any_0 e d x1 x2 M Q) : C_Mf_any e (d + 1) x1 x2 M Q := h
def C_Mf_also_0 (e : yE) (d : Nat) (x1 x2 : Int) (M : xM) (Q : Int → xM → Prop) : Prop := xGo xft xNf xmt xtr d 78 0 [some (.inr (some 1)), some (.inl x1), some (.inl x2)] [] (yS e M) (yI e Q)
theorem c_Mf_also_0 {e : yE} {d : Nat} {x1 x2 : Int} {M : xM} {Q : Int → xM → Prop} (hs : CSh e) (h :
    C_Mf_isName e d x1 M (fun y2 M1 => 
    (rg y2) ∧ ((y2 = 0 → 
      (Q (-1 : Int) M1)) ∧ 
    (¬ (y2 = 0) → 
      (C_Tm_has e d 18 x2 M1 (fun y4 M3 => 
      (rg y4) ∧ ((y4 = 0 → 
        (Q (-1 : Int) M3)) ∧ 
      (¬ (y4 = 0) → 
        ((0 ≤ x2 ∧ x2 < 300) ∧ 
        (C_Mf_inBits e d (M3 25 x2) x1 M3 (fun y6 M5 => 
        (rg y6) ∧ ((y6 = 0 → 
          (C_Mf_give e d x2 (-1 : Int) (-1 : Int) M5 (fun M7 => 
          (0 ≤ x2 ∧ x2 < 300) ∧ 
          (C_Tm_add e d 18 (2 : Int) (M7 20 x2) x1 58 3 (1 : Int) M7 (fun y9 M8 => 
          Q y9 M8))))) ∧ 
        (¬ (y6 = 0) → 
          (Q (-1 : Int) M5)))))))))))))) : C_Mf_also_0 e d x1 x2 M Q := by
  refine xGo.in ?_
  refine And.intro ⟨Nat.le_of_ble_eq_true rfl, Nat.le_of_ble_eq_true rfl, trivial⟩ ?_
  refine yI_use h (fun y2 M1 h => ?_)
  refine And.intro (h.1) (And.intro (fun c => ?_) (fun c => ?_))
  · replace h := h.2.1 c
    exact yI_ret h
  · replace h := h.2.2 c
    refine And.intro (cob_1 hs) ?_
    refine And.intro ⟨Nat.le_of_ble_eq_true rfl, Nat.le_of_ble_eq_true rfl, ob5 (c5_18 hs)⟩ ?_
    refine yI_use h (fun y4 M3 h => ?_)
    refine And.intro (h.1) (And.intro (fun c => ?_) (fun c => ?_))
    · replace h := h.2.1 c
      exact yI_ret h
    · replace h := h.2.2 c
      refine And.intro (cob_1 hs) ?_
      refine And.intro (ob5 (c5_18 hs)) ?_
      refine And.intro (xi_ld (caa_25 hs) (h.1)) ?_
      replace h := h.2
      refine And.intro ⟨Nat.le_of_ble_eq_true rfl, Nat.le_of_ble_eq_true rfl, trivial⟩ ?_
      refine yI_use h (fun y6 M5 h => ?_)
      refine And.intro (h.1) (And.intro (fun c => ?_) (fun c => ?_))
      · replace h := h.2.1 c
        refine And.intro ⟨Nat.le_of_ble_eq_true rfl, Nat.le_of_ble_eq_true rfl, cob_1 hs⟩ ?_
        refine yV_use h (fun _ M7 h => ?_)
        refine And.intro (cob_1 hs) ?_
        refine And.intro (cob_1 hs) ?_
        refine And.intro (ob5 (c5_18 hs)) ?_
        refine And.intro (xi_ld (caa_20 hs) (h.1)) ?_
        replace h := h.2
        refine And.intro (cob_1 hs) ?_
        refine And.intro ⟨Nat.le_of_ble_eq_true rfl, Nat.le_of_ble_eq_true rfl, ob5 (c5_18 hs)⟩ ?_
        refine yI_use h (fun y9 M8 h => ?_)
        exact yI_ret h
      · replace h := h.2.2 c
        exact yI_ret h
theorem c_Mf_also {e : yE} {d : Nat} {x1 : Int} {x2 : Int} {M : xM} {Q : Int → xM → Prop} (h : C_Mf_also_0 e d x1 x2 M Q) : C_Mf_also e (d + 1) x1 x2 M Q := h
def C_Mf_exactly_0 (e : yE) (d : Nat) (x1 : Int) (M : xM) (Q : Int → xM → Prop) : Prop := xGo xft xNf xmt xtr d 79 0 [some (.inr (some 1)), some (.inl x1)] [] (yS e M) (yI e Q)
theorem c_Mf_exactly_0 {e : yE} {d : Nat} {x1 : Int} {M : xM} {Q : Int → xM → Prop} (hs : CSh e) (h :
    C_Tm_add e d 18 (3 : Int) (0 : Int) x1 58 3 (0 : Int) M (fun y2 M1 => 
    Q y2 M1)) : C_Mf_exactly_0 e d x1 M Q := by
  refine xGo.in ?_
  refine And.intro (cob_1 hs) ?_
  refine And.intro (cob_1 hs) ?_
  refine And.intro ⟨Nat.le_of_ble_eq_true rfl, Nat.le_of_ble_eq_true rfl, ob5 (c5_18 hs)⟩ ?_
  refine yI_use h (fun y2 M1 h => ?_)
  exact yI_ret h
theorem c_Mf_exactly {e : yE} {d : Nat} {x1 : Int} {M : xM} {Q : Int → xM → Prop} (h : C_Mf_exactly_0 e d x1 M Q) : C_Mf_exactly e (d + 1) x1 M Q := h
def C_Mf_made_0 (e : yE) (d : Nat) (x1 x2 x3 x4 x5 : Int) (M : xM) (Q : Int → xM → Prop) : Prop := xGo xft xNf xmt xtr d 80 0 [some (.inr (some 1)), some (.inl x1), some (.inl x2), some (.inl x3), some (.inl x4), some (.inl x5)] [] (yS e M) (yI e Q)
theorem c_Mf_made_0 {e : yE} {d : Nat} {x1 x2 x3 x4 x5 : Int} {M : xM} {Q : Int → xM → Prop} (hs : CSh e) (h :
    C_Mf_give e d x3 x4 x5 M (fun M1 => 
    C_Mf_addMade e d 18 x1 x2 M1 (fun y3 M2 => 
    Q y3 M2))) : C_Mf_made_0 e d x1 x2 x3 x4 x5 M Q := by
  refine xGo.in ?_
  refine And.intro ⟨Nat.le_of_ble_eq_true rfl, Nat.le_of_ble_eq_true rfl, cob_1 hs⟩ ?_
  refine yV_use h (fun _ M1 h => ?_)
  refine And.intro (cob_1 hs) ?_
  refine And.intro ⟨Nat.le_of_ble_eq_true rfl, Nat.le_of_ble_eq_true rfl, cob_1 hs⟩ ?_
  refine yI_use h (fun y3 M2 h => ?_)
  exact yI_ret h
theorem c_Mf_made {e : yE} {d : Nat} {x1 : Int} {x2 : Int} {x3 : Int} {x4 : Int} {x5 : Int} {M : xM} {Q : Int → xM → Prop} (h : C_Mf_made_0 e d x1 x2 x3 x4 x5 M Q) : C_Mf_made e (d + 1) x1 x2 x3 x4 x5 M Q := h
def C_Mf_either_0 (e : yE) (d : Nat) (x1 x2 : Int) (M : xM) (Q : Int → xM → Prop) : Prop := xGo xft xNf xmt xtr d 81 0 [some (.inr (some 1)), some (.inl x1), some (.inl x2)] [] (yS e M) (yI e Q)
theorem c_Mf_either_0 {e : yE} {d : Nat} {x1 x2 : Int} {M : xM} {Q : Int → xM → Prop} (hs : CSh e) (h :
    C_Tm_has e d 18 x1 M (fun y2 M1 => 
    (rg y2) ∧ ((y2 = 0 → 
      (Q (-1 : Int) M1)) ∧ 
    (¬ (y2 = 0) → 
      (C_Tm_has e d 18 x2 M1 (fun y4 M3 => 
      (rg y4) ∧ ((y4 = 0 → 
        (Q (-1 : Int) M3)) ∧ 
      (¬ (y4 = 0) → 
        (C_Tm_areAlike e d 18 x1 x2 M3 (fun y6 M5 => 
        (rg y6) ∧ ((¬ y6 = 0 → 
          (C_Mf_give e d x1 x2 (-1 : Int) M5 (fun M7 => 
          (0 ≤ x1 ∧ x1 < 300) ∧ 
          (C_Tm_add e d 18 (5 : Int) (M7 20 x1) (-1 : Int) 58 3 (2 : Int) M7 (fun y9 M8 => 
          Q y9 M8))))) ∧ 
        (¬ (¬ y6 = 0) → 
          (Q (-1 : Int) M5))))))))))))) : C_Mf_either_0 e d x1 x2 M Q := by
  refine xGo.in ?_
  refine And.intro (cob_1 hs) ?_
  refine And.intro ⟨Nat.le_of_ble_eq_true rfl, Nat.le_of_ble_eq_true rfl, ob5 (c5_18 hs)⟩ ?_
  refine yI_use h (fun y2 M1 h => ?_)
  refine And.intro (h.1) (And.intro (fun c => ?_) (fun c => ?_))
  · replace h := h.2.1 c
    exact yI_ret h
  · replace h := h.2.2 c
    refine And.intro (cob_1 hs) ?_
    refine And.intro ⟨Nat.le_of_ble_eq_true rfl, Nat.le_of_ble_eq_true rfl, ob5 (c5_18 hs)⟩ ?_
    refine yI_use h (fun y4 M3 h => ?_)
    refine And.intro (h.1) (And.intro (fun c => ?_) (fun c => ?_))
    · replace h := h.2.1 c
      exact yI_ret h
    · replace h := h.2.2 c
      refine And.intro (cob_1 hs) ?_
      refine And.intro ⟨Nat.le_of_ble_eq_true rfl, Nat.le_of_ble_eq_true rfl, ob5 (c5_18 hs)⟩ ?_
      refine yI_use h (fun y6 M5 h => ?_)
      refine And.intro (h.1) (And.intro (fun c => ?_) (fun c => ?_))
      · replace h := h.2.1 c
        refine And.intro ⟨Nat.le_of_ble_eq_true rfl, Nat.le_of_ble_eq_true rfl, cob_1 hs⟩ ?_
        refine yV_use h (fun _ M7 h => ?_)
        refine And.intro (cob_1 hs) ?_
        refine And.intro (cob_1 hs) ?_
        refine And.intro (ob5 (c5_18 hs)) ?_
        refine And.intro (xi_ld (caa_20 hs) (h.1)) ?_
        replace h := h.2
        refine And.intro (cob_1 hs) ?_
        refine And.intro ⟨Nat.le_of_ble_eq_true rfl, Nat.le_of_ble_eq_true rfl, ob5 (c5_18 hs)⟩ ?_
        refine yI_use h (fun y9 M8 h => ?_)
        exact yI_ret h
      · replace h := h.2.2 c
        exact yI_ret h
theorem c_Mf_either {e : yE} {d : Nat} {x1 : Int} {x2 : Int} {M : xM} {Q : Int → xM → Prop} (h : C_Mf_either_0 e d x1 x2 M Q) : C_Mf_either e (d + 1) x1 x2 M Q := h
def C_Mf_row_0 (e : yE) (d : Nat) (x1 x2 x3 x4 x5 x6 : Int) (M : xM) (Q : Int → xM → Prop) : Prop := ∀ (o7 : Option xV), xGo xft xNf xmt xtr d 83 0 [some (.inr (some 1)), some (.inl x1), some (.inl x2), some (.inl x3), some (.inl x4), some (.inl x5), some (.inl x6), o7] [] (yS e M) (yI e Q)
def C_Mf_row_97 (e : yE) (d : Nat) (x5 x6 : Int) (r7 : Nat) (M : xM) (Q : Int → xM → Prop) : Prop := ∀ (o1 o2 o3 o4 : Option xV), xGo xft xNf xmt xtr d 83 97 [some (.inr (some 1)), o1, o2, o3, o4, some (.inl x5), some (.inl x6), some (.inr (some r7))] [] (yS e M) (yI e Q)
theorem c_Mf_row_0 {e : yE} {d : Nat} {x1 x2 x3 x4 x5 x6 : Int} {M : xM} {Q : Int → xM → Prop} (hs : CSh e) (h :
    C_Mf_isMatch e d x1 M (fun y2 M1 => 
    (rg y2) ∧ ((¬ y2 = 0 → 
      (C_Mf_give e d x2 x3 x4 M1 (fun M3 => 
      (0 ≤ x1 ∧ x1 < 20) ∧ 
      (∃ q4 : Nat, (M3 28 x1 = (q4 : Int) ∧ XSh3 q4 e) ∧ 
      (C_Tm_areOf e d 18 (q4 + 1) 3 58 3 (M3 q4 0) M3 (fun y6 M5 => 
      (rg y6) ∧ ((¬ y6 = 0 → 
        (C_Tm_haveNamesApart e d 18 58 3 (M5 q4 0) M5 (fun y8 M7 => 
        (rg y8) ∧ ((¬ y8 = 0 → 
          ((rg x5) ∧ ((x5 = (-1 : Int) → 
            (C_Mf_row_97 e d x5 x6 q4 M7 Q)) ∧ 
          (¬ (x5 = (-1 : Int)) → 
            (C_Mf_isGuard e d x5 x6 (M7 q4 0) M7 (fun y10 M9 => 
            (rg y10) ∧ ((¬ y10 = 0 → 
              (C_Mf_row_97 e d x5 x6 q4 M9 Q)) ∧ 
            (¬ (¬ y10 = 0) → 
              (Q (-1 : Int) M9))))))))) ∧ 
        (¬ (¬ y8 = 0) → 
          (Q (-1 : Int) M7)))))) ∧ 
      (¬ (¬ y6 = 0) → 
        (Q (-1 : Int) M5))))))))) ∧ 
    (¬ (¬ y2 = 0) → 
      (Q (-1 : Int) M1))))) : C_Mf_row_0 e d x1 x2 x3 x4 x5 x6 M Q := by
  intro o7
  refine xGo.in ?_
  refine And.intro ⟨Nat.le_of_ble_eq_true rfl, Nat.le_of_ble_eq_true rfl, cob_1 hs⟩ ?_
  refine yI_use h (fun y2 M1 h => ?_)
  refine And.intro (h.1) (And.intro (fun c => ?_) (fun c => ?_))
  · replace h := h.2.1 c
    refine And.intro ⟨Nat.le_of_ble_eq_true rfl, Nat.le_of_ble_eq_true rfl, cob_1 hs⟩ ?_
    refine yV_use h (fun _ M3 h => ?_)
    refine And.intro (cob_1 hs) ?_
    refine And.intro (xi_ldb (caa_28 hs) (h.1)) ?_
    replace h := h.2
    obtain ⟨q4, ⟨eq4, hq4⟩, h⟩ := h
    refine xgo_top (xr3 eq4) ?_
    refine And.intro (cob_1 hs) ?_
    refine And.intro (ob3 hq4) ?_
    refine And.intro (cob_1 hs) ?_
    refine And.intro (ob3 hq4) ?_
    refine And.intro ⟨Nat.le_of_ble_eq_true rfl, Nat.le_of_ble_eq_true rfl, ob5 (c5_18 hs)⟩ ?_
    refine yI_use h (fun y6 M5 h => ?_)
    refine And.intro (h.1) (And.intro (fun c => ?_) (fun c => ?_))
    · replace h := h.2.1 c
      refine And.intro (cob_1 hs) ?_
      refine And.intro (cob_1 hs) ?_
      refine And.intro (ob3 hq4) ?_
      refine And.intro ⟨Nat.le_of_ble_eq_true rfl, Nat.le_of_ble_eq_true rfl, ob5 (c5_18 hs)⟩ ?_
      refine yI_use h (fun y8 M7 h => ?_)
      refine And.intro (h.1) (And.intro (fun c => ?_) (fun c => ?_))
      · replace h := h.2.1 c
        refine And.intro (⟨h.1, rg_lit (by decide)⟩) (And.intro (fun c => ?_) (fun c => ?_))
        · replace h := h.2.1 c
          exact h _ _ _ _
        · replace h := h.2.2 c
          refine And.intro (ob3 hq4) ?_
          refine And.intro ⟨Nat.le_of_ble_eq_true rfl, Nat.le_of_ble_eq_true rfl, cob_1 hs⟩ ?_
          refine yI_use h (fun y10 M9 h => ?_)
          refine And.intro (h.1) (And.intro (fun c => ?_) (fun c => ?_))
          · replace h := h.2.1 c
            exact h _ _ _ _
          · replace h := h.2.2 c
            exact yI_ret h
      · replace h := h.2.2 c
        exact yI_ret h
    · replace h := h.2.2 c
      exact yI_ret h
  · replace h := h.2.2 c
    exact yI_ret h
theorem c_Mf_row_97 {e : yE} {d : Nat} {x5 x6 : Int} {r7 : Nat} {M : xM} {Q : Int → xM → Prop} (hs : CSh e) (hr7 : XSh3 r7 e) (h :
    C_Ma_addRow e d r7 58 3 x5 x6 M (fun y2 M1 => 
    Q y2 M1)) : C_Mf_row_97 e d x5 x6 r7 M Q := by
  intro o1 o2 o3 o4
  refine xGo.in ?_
  refine And.intro (cob_1 hs) ?_
  refine And.intro ⟨Nat.le_of_ble_eq_true rfl, Nat.le_of_ble_eq_true rfl, ob3 hr7⟩ ?_
  refine yI_use h (fun y2 M1 h => ?_)
  exact yI_ret h
theorem c_Mf_row {e : yE} {d : Nat} {x1 : Int} {x2 : Int} {x3 : Int} {x4 : Int} {x5 : Int} {x6 : Int} {M : xM} {Q : Int → xM → Prop} (h : C_Mf_row_0 e d x1 x2 x3 x4 x5 x6 M Q) : C_Mf_row e (d + 1) x1 x2 x3 x4 x5 x6 M Q := h _
def C_Mf_run_0 (e : yE) (d : Nat) (x1 x2 x3 x4 : Int) (M : xM) (Q : Int → yE → xM → Prop) : Prop := xGo xft xNf xmt xtr d 84 0 [some (.inr (some 1)), some (.inl x1), some (.inl x2), some (.inl x3), some (.inl x4)] [] (yS e M) (zI Q)
theorem c_Mf_run_0 {e : yE} {d : Nat} {x1 x2 x3 x4 : Int} {M : xM} {Q : Int → yE → xM → Prop} (hs : CSh e) (h :
    C_Mf_give e d x2 x3 x4 M (fun M1 => 
    C_Mf_isMatch e d x1 M1 (fun y3 M2 => 
    (rg y3) ∧ ((y3 = 0 → 
      (C_Wa_clear e d 45 M2 (fun M4 => 
      Q (-1 : Int) e M4))) ∧ 
    (¬ (y3 = 0) → 
      ((0 ≤ x1 ∧ x1 < 20) ∧ 
      (∃ q5 : Nat, (M2 28 x1 = (q5 : Int) ∧ XSh3 q5 e) ∧ 
      ((0 ≤ x1 ∧ x1 < 20) ∧ 
      (∃ q6 : Nat, (M2 28 x1 = (q6 : Int) ∧ XSh3 q6 e) ∧ 
      (C_Tm_areOf e d 8 (q5 + 1) 3 58 3 (M2 q6 0) M2 (fun y8 M7 => 
      (rg y8) ∧ ((¬ y8 = 0 → 
        ((0 ≤ x1 ∧ x1 < 20) ∧ 
        (∃ q9 : Nat, (M7 28 x1 = (q9 : Int) ∧ XSh3 q9 e) ∧ 
        (C_Bu_stands e d q9 M7 (fun y12 e11 M10 => 
        yLe e e11 ∧ ((rg y12) ∧ ((¬ y12 = 0 → 
          ((0 ≤ x1 ∧ x1 < 20) ∧ 
          (∃ q13 : Nat, (M10 28 x1 = (q13 : Int) ∧ XSh3 q13 e11) ∧ 
          (C_Wa_follow e11 d 45 q13 58 3 M10 (fun y15 M14 => 
          Q y15 e11 M14))))) ∧ 
        (¬ (¬ y12 = 0) → 
          (Q (-2 : Int) e11 M10))))))))) ∧ 
      (¬ (¬ y8 = 0) → 
        (C_Wa_clear e d 45 M7 (fun M16 => 
        Q (-1 : Int) e M16))))))))))))))) : C_Mf_run_0 e d x1 x2 x3 x4 M Q := by
  refine xGo.in ?_
  refine And.intro ⟨Nat.le_of_ble_eq_true rfl, Nat.le_of_ble_eq_true rfl, cob_1 hs⟩ ?_
  refine yV_use h (fun _ M1 h => ?_)
  refine And.intro ⟨Nat.le_of_ble_eq_true rfl, Nat.le_of_ble_eq_true rfl, cob_1 hs⟩ ?_
  refine yI_use h (fun y3 M2 h => ?_)
  refine And.intro (h.1) (And.intro (fun c => ?_) (fun c => ?_))
  · replace h := h.2.1 c
    refine And.intro (cob_1 hs) ?_
    refine And.intro ⟨Nat.le_of_ble_eq_true rfl, Nat.le_of_ble_eq_true rfl, ob8 (c8_45 hs)⟩ ?_
    refine yV_use h (fun _ M4 h => ?_)
    exact zI_ret h
  · replace h := h.2.2 c
    refine And.intro (cob_1 hs) ?_
    refine And.intro (cob_1 hs) ?_
    refine And.intro (xi_ldb (caa_28 hs) (h.1)) ?_
    replace h := h.2
    obtain ⟨q5, ⟨eq5, hq5⟩, h⟩ := h
    refine xgo_top (xr3 eq5) ?_
    refine And.intro (ob3 hq5) ?_
    refine And.intro (cob_1 hs) ?_
    refine And.intro (cob_1 hs) ?_
    refine And.intro (xi_ldb (caa_28 hs) (h.1)) ?_
    replace h := h.2
    obtain ⟨q6, ⟨eq6, hq6⟩, h⟩ := h
    refine xgo_top (xr3 eq6) ?_
    refine And.intro (ob3 hq6) ?_
    refine And.intro ⟨Nat.le_of_ble_eq_true rfl, Nat.le_of_ble_eq_true rfl, ob5 (c5_8 hs)⟩ ?_
    refine yI_use h (fun y8 M7 h => ?_)
    refine And.intro (h.1) (And.intro (fun c => ?_) (fun c => ?_))
    · replace h := h.2.1 c
      refine And.intro (cob_1 hs) ?_
      refine And.intro (cob_1 hs) ?_
      refine And.intro (xi_ldb (caa_28 hs) (h.1)) ?_
      replace h := h.2
      obtain ⟨q9, ⟨eq9, hq9⟩, h⟩ := h
      refine xgo_top (xr3 eq9) ?_
      refine And.intro ⟨Nat.le_of_ble_eq_true rfl, Nat.le_of_ble_eq_true rfl, cob_29 hs⟩ ?_
      refine zI_use h (fun y12 e11 M10 h => ?_)
      obtain ⟨hle, h⟩ := h
      replace hs := hs.le hle
      replace hq5 := hq5.le hle
      replace hq6 := hq6.le hle
      replace hq9 := hq9.le hle
      clear hle
      refine And.intro (h.1) (And.intro (fun c => ?_) (fun c => ?_))
      · replace h := h.2.1 c
        refine And.intro (cob_1 hs) ?_
        refine And.intro (cob_1 hs) ?_
        refine And.intro (xi_ldb (caa_28 hs) (h.1)) ?_
        replace h := h.2
        obtain ⟨q13, ⟨eq13, hq13⟩, h⟩ := h
        refine xgo_top (xr3 eq13) ?_
        refine And.intro (cob_1 hs) ?_
        refine And.intro ⟨Nat.le_of_ble_eq_true rfl, Nat.le_of_ble_eq_true rfl, ob8 (c8_45 hs)⟩ ?_
        refine yI_use h (fun y15 M14 h => ?_)
        exact zI_ret h
      · replace h := h.2.2 c
        exact zI_ret h
    · replace h := h.2.2 c
      refine And.intro (cob_1 hs) ?_
      refine And.intro ⟨Nat.le_of_ble_eq_true rfl, Nat.le_of_ble_eq_true rfl, ob8 (c8_45 hs)⟩ ?_
      refine yV_use h (fun _ M16 h => ?_)
      exact zI_ret h
theorem c_Mf_run {e : yE} {d : Nat} {x1 : Int} {x2 : Int} {x3 : Int} {x4 : Int} {M : xM} {Q : Int → yE → xM → Prop} (h : C_Mf_run_0 e d x1 x2 x3 x4 M Q) : C_Mf_run e (d + 1) x1 x2 x3 x4 M Q := h
def C_Mf_took_0 (e : yE) (d : Nat) (x1 : Int) (M : xM) (Q : Int → xM → Prop) : Prop := xGo xft xNf xmt xtr d 85 0 [some (.inr (some 1)), some (.inl x1)] [] (yS e M) (yI e Q)
theorem c_Mf_took_0 {e : yE} {d : Nat} {x1 : Int} {M : xM} {Q : Int → xM → Prop} (hs : CSh e) (h :
    C_Mf_isName e d x1 M (fun y2 M1 => 
    (rg y2) ∧ ((y2 = 0 → 
      ((rg x1) ∧ ((¬ x1 = (16 : Int) → 
        ((rg x1) ∧ ((¬ x1 = (17 : Int) → 
          (Q (-1 : Int) M1)) ∧ 
        (¬ (¬ x1 = (17 : Int)) → 
          (Q (M1 45 3) M1))))) ∧ 
      (¬ (¬ x1 = (16 : Int)) → 
        (Q (M1 45 2) M1))))) ∧ 
    (¬ (y2 = 0) → 
      ((0 ≤ x1 ∧ x1 < 16) ∧ 
      (Q (M1 46 x1) M1)))))) : C_Mf_took_0 e d x1 M Q := by
  refine xGo.in ?_
  refine And.intro ⟨Nat.le_of_ble_eq_true rfl, Nat.le_of_ble_eq_true rfl, trivial⟩ ?_
  refine yI_use h (fun y2 M1 h => ?_)
  refine And.intro (h.1) (And.intro (fun c => ?_) (fun c => ?_))
  · replace h := h.2.1 c
    refine And.intro (⟨h.1, rg_lit (by decide)⟩) (And.intro (fun c => ?_) (fun c => ?_))
    · replace h := h.2.1 c
      refine And.intro (⟨h.1, rg_lit (by decide)⟩) (And.intro (fun c => ?_) (fun c => ?_))
      · replace h := h.2.1 c
        exact yI_ret h
      · replace h := h.2.2 c
        refine And.intro (cob_1 hs) ?_
        refine And.intro (ob8 (c8_45 hs)) ?_
        exact yI_ret h
    · replace h := h.2.2 c
      refine And.intro (cob_1 hs) ?_
      refine And.intro (ob8 (c8_45 hs)) ?_
      exact yI_ret h
  · replace h := h.2.2 c
    refine And.intro (cob_1 hs) ?_
    refine And.intro (ob8 (c8_45 hs)) ?_
    refine And.intro (xi_ld (caa_46 hs) (h.1)) ?_
    replace h := h.2
    exact yI_ret h
theorem c_Mf_took {e : yE} {d : Nat} {x1 : Int} {M : xM} {Q : Int → xM → Prop} (h : C_Mf_took_0 e d x1 M Q) : C_Mf_took e (d + 1) x1 M Q := h
def C_Mf_tree_0 (e : yE) (d : Nat) (x1 x2 : Int) (M : xM) (Q : Int → yE → xM → Prop) : Prop := ∀ (o3 : Option xV), xGo xft xNf xmt xtr d 86 0 [some (.inr (some 1)), some (.inl x1), some (.inl x2), o3] [] (yS e M) (zI Q)
theorem c_Mf_tree_0 {e : yE} {d : Nat} {x1 x2 : Int} {M : xM} {Q : Int → yE → xM → Prop} (hs : CSh e) (h :
    C_Mf_isMatch e d x1 M (fun y2 M1 => 
    (rg y2) ∧ ((y2 = 0 → 
      (Q (-1 : Int) e M1)) ∧ 
    (¬ (y2 = 0) → 
      ((rg x2) ∧ ((x2 < 0 → 
        (Q (-1 : Int) e M1)) ∧ 
      (¬ (x2 < 0) → 
        ((rg x2) ∧ ((x2 ≤ (4 : Int) → 
          ((0 ≤ x1 ∧ x1 < 20) ∧ 
          (∃ q3 : Nat, (M1 28 x1 = (q3 : Int) ∧ XSh3 q3 e) ∧ 
          (C_Bu_stands e d q3 M1 (fun y6 e5 M4 => 
          yLe e e5 ∧ ((rg y6) ∧ ((¬ y6 = 0 → 
            ((0 ≤ x1 ∧ x1 < 20) ∧ 
            (∃ q7 : Nat, (M4 28 x1 = (q7 : Int) ∧ XSh3 q7 e5) ∧ 
            ((rg x2) ∧ ((¬ x2 = (4 : Int) → 
              ((0 ≤ x2 ∧ x2 < 4) ∧ 
              (Q (M4 (q7 + 6) x2) e5 M4))) ∧ 
            (¬ (¬ x2 = (4 : Int)) → 
              (Q (M4 (q7 + 5) 2) e5 M4))))))) ∧ 
          (¬ (¬ y6 = 0) → 
            (Q (-2 : Int) e5 M4))))))))) ∧ 
        (¬ (x2 ≤ (4 : Int)) → 
          (Q (-1 : Int) e M1))))))))))) : C_Mf_tree_0 e d x1 x2 M Q := by
  intro o3
  refine xGo.in ?_
  refine And.intro ⟨Nat.le_of_ble_eq_true rfl, Nat.le_of_ble_eq_true rfl, cob_1 hs⟩ ?_
  refine yI_use h (fun y2 M1 h => ?_)
  refine And.intro (h.1) (And.intro (fun c => ?_) (fun c => ?_))
  · replace h := h.2.1 c
    exact zI_ret h
  · replace h := h.2.2 c
    refine And.intro (h.1) (And.intro (fun c => ?_) (fun c => ?_))
    · replace h := h.2.1 c
      exact zI_ret h
    · replace h := h.2.2 c
      refine And.intro (⟨h.1, rg_lit (by decide)⟩) (And.intro (fun c => ?_) (fun c => ?_))
      · replace h := h.2.1 c
        refine And.intro (cob_1 hs) ?_
        refine And.intro (cob_1 hs) ?_
        refine And.intro (xi_ldb (caa_28 hs) (h.1)) ?_
        replace h := h.2
        obtain ⟨q3, ⟨eq3, hq3⟩, h⟩ := h
        refine xgo_top (xr3 eq3) ?_
        refine And.intro ⟨Nat.le_of_ble_eq_true rfl, Nat.le_of_ble_eq_true rfl, cob_29 hs⟩ ?_
        refine zI_use h (fun y6 e5 M4 h => ?_)
        obtain ⟨hle, h⟩ := h
        replace hs := hs.le hle
        replace hq3 := hq3.le hle
        clear hle
        refine And.intro (h.1) (And.intro (fun c => ?_) (fun c => ?_))
        · replace h := h.2.1 c
          refine And.intro (cob_1 hs) ?_
          refine And.intro (xi_ldb (caa_28 hs) (h.1)) ?_
          replace h := h.2
          obtain ⟨q7, ⟨eq7, hq7⟩, h⟩ := h
          refine xgo_top (xr3 eq7) ?_
          refine And.intro (ob3 hq7) ?_
          refine And.intro (⟨h.1, rg_lit (by decide)⟩) (And.intro (fun c => ?_) (fun c => ?_))
          · replace h := h.2.1 c
            refine And.intro (ob6 (t3 hq7)) ?_
            refine And.intro (xi_ld (a6_1 (t3 hq7)) (h.1)) ?_
            replace h := h.2
            exact zI_ret h
          · replace h := h.2.2 c
            refine And.intro (ob6 (t3 hq7)) ?_
            exact zI_ret h
        · replace h := h.2.2 c
          exact zI_ret h
      · replace h := h.2.2 c
        exact zI_ret h
theorem c_Mf_tree {e : yE} {d : Nat} {x1 : Int} {x2 : Int} {M : xM} {Q : Int → yE → xM → Prop} (h : C_Mf_tree_0 e d x1 x2 M Q) : C_Mf_tree e (d + 1) x1 x2 M Q := h _
def C_Mf_missing_0 (e : yE) (d : Nat) (x1 : Int) (M : xM) (Q : Int → yE → xM → Prop) : Prop := xGo xft xNf xmt xtr d 87 0 [some (.inr (some 1)), some (.inl x1)] [] (yS e M) (zI Q)
theorem c_Mf_missing_0 {e : yE} {d : Nat} {x1 : Int} {M : xM} {Q : Int → yE → xM → Prop} (hs : CSh e) (h :
    C_Mf_isMatch e d x1 M (fun y2 M1 => 
    (rg y2) ∧ ((¬ y2 = 0 → 
      ((0 ≤ x1 ∧ x1 < 20) ∧ 
      (∃ q3 : Nat, (M1 28 x1 = (q3 : Int) ∧ XSh3 q3 e) ∧ 
      (C_Bu_stands e d q3 M1 (fun y6 e5 M4 => 
      yLe e e5 ∧ ((rg y6) ∧ ((y6 = 0 → 
        (Q (-2 : Int) e5 M4)) ∧ 
      (¬ (y6 = 0) → 
        ((0 ≤ x1 ∧ x1 < 20) ∧ 
        (∃ q7 : Nat, (M4 28 x1 = (q7 : Int) ∧ XSh3 q7 e5) ∧ 
        (C_Te_tell e5 d q7 M4 (fun y9 M8 => 
        Q y9 e5 M8)))))))))))) ∧ 
    (¬ (¬ y2 = 0) → 
      (Q (-1 : Int) e M1))))) : C_Mf_missing_0 e d x1 M Q := by
  refine xGo.in ?_
  refine And.intro ⟨Nat.le_of_ble_eq_true rfl, Nat.le_of_ble_eq_true rfl, cob_1 hs⟩ ?_
  refine yI_use h (fun y2 M1 h => ?_)
  refine And.intro (h.1) (And.intro (fun c => ?_) (fun c => ?_))
  · replace h := h.2.1 c
    refine And.intro (cob_1 hs) ?_
    refine And.intro (cob_1 hs) ?_
    refine And.intro (xi_ldb (caa_28 hs) (h.1)) ?_
    replace h := h.2
    obtain ⟨q3, ⟨eq3, hq3⟩, h⟩ := h
    refine xgo_top (xr3 eq3) ?_
    refine And.intro ⟨Nat.le_of_ble_eq_true rfl, Nat.le_of_ble_eq_true rfl, cob_29 hs⟩ ?_
    refine zI_use h (fun y6 e5 M4 h => ?_)
    obtain ⟨hle, h⟩ := h
    replace hs := hs.le hle
    replace hq3 := hq3.le hle
    clear hle
    refine And.intro (h.1) (And.intro (fun c => ?_) (fun c => ?_))
    · replace h := h.2.1 c
      exact zI_ret h
    · replace h := h.2.2 c
      refine And.intro (cob_1 hs) ?_
      refine And.intro (cob_1 hs) ?_
      refine And.intro (xi_ldb (caa_28 hs) (h.1)) ?_
      replace h := h.2
      obtain ⟨q7, ⟨eq7, hq7⟩, h⟩ := h
      refine xgo_top (xr3 eq7) ?_
      refine And.intro ⟨Nat.le_of_ble_eq_true rfl, Nat.le_of_ble_eq_true rfl, cob_53 hs⟩ ?_
      refine yI_use h (fun y9 M8 h => ?_)
      exact zI_ret h
  · replace h := h.2.2 c
    exact zI_ret h
theorem c_Mf_missing {e : yE} {d : Nat} {x1 : Int} {M : xM} {Q : Int → yE → xM → Prop} (h : C_Mf_missing_0 e d x1 M Q) : C_Mf_missing e (d + 1) x1 M Q := h
def C_Mf_part_0 (e : yE) (d : Nat) (x1 : Int) (M : xM) (Q : Int → xM → Prop) : Prop := xGo xft xNf xmt xtr d 88 0 [some (.inr (some 1)), some (.inl x1)] [] (yS e M) (yI e Q)
theorem c_Mf_part_0 {e : yE} {d : Nat} {x1 : Int} {M : xM} {Q : Int → xM → Prop} (hs : CSh e) (h :
    (rg x1) ∧ ((x1 < 0 → 
      (Q (-1 : Int) M)) ∧ 
    (¬ (x1 < 0) → 
      ((rg x1 ∧ rg (M 53 3)) ∧ (((M 53 3) ≤ x1 → 
        (Q (-1 : Int) M)) ∧ 
      (¬ ((M 53 3) ≤ x1) → 
        (∃ q1 nq1 : Nat, (M 53 1 = (q1 : Int) ∧ yA e q1 1 nq1) ∧ 
        ((0 ≤ x1 ∧ x1 < (nq1 : Int)) ∧ 
        (Q (M q1 x1) M))))))))) : C_Mf_part_0 e d x1 M Q := by
  refine xGo.in ?_
  refine And.intro (h.1) (And.intro (fun c => ?_) (fun c => ?_))
  · replace h := h.2.1 c
    exact yI_ret h
  · replace h := h.2.2 c
    refine And.intro (cob_1 hs) ?_
    refine And.intro (cob_53 hs) ?_
    refine And.intro (⟨h.1.1, h.1.2⟩) (And.intro (fun c => ?_) (fun c => ?_))
    · replace h := h.2.1 c
      exact yI_ret h
    · replace h := h.2.2 c
      refine And.intro (cob_1 hs) ?_
      refine And.intro (cob_53 hs) ?_
      obtain ⟨q1, nq1, ⟨eq1, hq1⟩, h⟩ := h
      refine xgo_top (xg3 (a := 4) (j := 1) rfl eq1) ?_
      refine And.intro (xi_ld (hq1) (h.1)) ?_
      replace h := h.2
      exact yI_ret h
theorem c_Mf_part {e : yE} {d : Nat} {x1 : Int} {M : xM} {Q : Int → xM → Prop} (h : C_Mf_part_0 e d x1 M Q) : C_Mf_part e (d + 1) x1 M Q := h
def C_Mf_plain_0 (e : yE) (d : Nat) (x1 : Int) (M : xM) (Q : Int → xM → Prop) : Prop := xGo xft xNf xmt xtr d 89 0 [some (.inr (some 1)), some (.inl x1)] [] (yS e M) (yI e Q)
theorem c_Mf_plain_0 {e : yE} {d : Nat} {x1 : Int} {M : xM} {Q : Int → xM → Prop} (hs : CSh e) (h :
    C_Ty_isType e d x1 M (fun y2 M1 => 
    (rg y2) ∧ ((y2 = 0 → 
      (Q (-1 : Int) M1)) ∧ 
    (¬ (y2 = 0) → 
      ((0 ≤ x1 ∧ x1 < 8) ∧ 
      (Q (M1 6 x1) M1)))))) : C_Mf_plain_0 e d x1 M Q := by
  refine xGo.in ?_
  refine And.intro (cob_1 hs) ?_
  refine And.intro ⟨Nat.le_of_ble_eq_true rfl, Nat.le_of_ble_eq_true rfl, cob_2 hs⟩ ?_
  refine yI_use h (fun y2 M1 h => ?_)
  refine And.intro (h.1) (And.intro (fun c => ?_) (fun c => ?_))
  · replace h := h.2.1 c
    exact yI_ret h
  · replace h := h.2.2 c
    refine And.intro (cob_1 hs) ?_
    refine And.intro (cob_2 hs) ?_
    refine And.intro (xi_ld (caa_6 hs) (h.1)) ?_
    replace h := h.2
    exact yI_ret h
theorem c_Mf_plain {e : yE} {d : Nat} {x1 : Int} {M : xM} {Q : Int → xM → Prop} (h : C_Mf_plain_0 e d x1 M Q) : C_Mf_plain e (d + 1) x1 M Q := h
def C_Mf_count_0 (e : yE) (d : Nat) (x1 : Int) (M : xM) (Q : Int → xM → Prop) : Prop := xGo xft xNf xmt xtr d 90 0 [some (.inr (some 1)), some (.inl x1)] [] (yS e M) (yI e Q)
def C_Mf_count_40 (e : yE) (d : Nat) (M : xM) (Q : Int → xM → Prop) : Prop := ∀ (o1 : Option xV), xGo xft xNf xmt xtr d 90 40 [some (.inr (some 1)), o1] [] (yS e M) (yI e Q)
def C_Mf_count_48 (e : yE) (d : Nat) (M : xM) (Q : Int → xM → Prop) : Prop := ∀ (o1 : Option xV), xGo xft xNf xmt xtr d 90 48 [some (.inr (some 1)), o1] [] (yS e M) (yI e Q)
def C_Mf_count_56 (e : yE) (d : Nat) (M : xM) (Q : Int → xM → Prop) : Prop := ∀ (o1 : Option xV), xGo xft xNf xmt xtr d 90 56 [some (.inr (some 1)), o1] [] (yS e M) (yI e Q)
def C_Mf_count_64 (e : yE) (d : Nat) (M : xM) (Q : Int → xM → Prop) : Prop := ∀ (o1 : Option xV), xGo xft xNf xmt xtr d 90 64 [some (.inr (some 1)), o1] [] (yS e M) (yI e Q)
def C_Mf_count_72 (e : yE) (d : Nat) (M : xM) (Q : Int → xM → Prop) : Prop := ∀ (o1 : Option xV), xGo xft xNf xmt xtr d 90 72 [some (.inr (some 1)), o1] [] (yS e M) (yI e Q)
def C_Mf_count_77 (e : yE) (d : Nat) (M : xM) (Q : Int → xM → Prop) : Prop := ∀ (o1 : Option xV), xGo xft xNf xmt xtr d 90 77 [some (.inr (some 1)), o1] [] (yS e M) (yI e Q)
def C_Mf_count_82 (e : yE) (d : Nat) (M : xM) (Q : Int → xM → Prop) : Prop := ∀ (o1 : Option xV), xGo xft xNf xmt xtr d 90 82 [some (.inr (some 1)), o1] [] (yS e M) (yI e Q)
theorem c_Mf_count_0 {e : yE} {d : Nat} {x1 : Int} {M : xM} {Q : Int → xM → Prop} (hs : CSh e) (h :
    (rg x1) ∧ ((x1 < 0 ∨ 5 < x1) → 
    (C_Mf_count_82 e d M Q)) ∧ 
    (x1 = 0 → 
    (C_Mf_count_40 e d M Q)) ∧ 
    (x1 = 1 → 
    (C_Mf_count_48 e d M Q)) ∧ 
    (x1 = 2 → 
    (C_Mf_count_56 e d M Q)) ∧ 
    (x1 = 3 → 
    (C_Mf_count_64 e d M Q)) ∧ 
    (x1 = 4 → 
    (C_Mf_count_72 e d M Q)) ∧ 
    (x1 = 5 → 
    (C_Mf_count_77 e d M Q))) : C_Mf_count_0 e d x1 M Q := by
  refine xGo.in ?_
  obtain ⟨hr, h0, h1, h2, h3, h4, h5, h6⟩ := h
  refine And.intro hr (And.intro (fun c => ?_) (fun c => ?_))
  · have h := h0 c
    exact h _
  · have c2 : ¬ (x1 < 0 ∨ 5 < x1) := c
    rcases (show x1 = 0 ∨ x1 = 1 ∨ x1 = 2 ∨ x1 = 3 ∨ x1 = 4 ∨ x1 = 5 by omega) with hv | hv | hv | hv | hv | hv
    · have h := h1 hv
      show xGo xft xNf xmt xtr d 90 ((((1 : Nat) : Int) + (#[39, 47, 55, 63, 71, 76] : Array Int).getD (x1 - 0).toNat 0).toNat) _ _ _ _
      rw [hv]
      exact h _
    · have h := h2 hv
      show xGo xft xNf xmt xtr d 90 ((((1 : Nat) : Int) + (#[39, 47, 55, 63, 71, 76] : Array Int).getD (x1 - 0).toNat 0).toNat) _ _ _ _
      rw [hv]
      exact h _
    · have h := h3 hv
      show xGo xft xNf xmt xtr d 90 ((((1 : Nat) : Int) + (#[39, 47, 55, 63, 71, 76] : Array Int).getD (x1 - 0).toNat 0).toNat) _ _ _ _
      rw [hv]
      exact h _
    · have h := h4 hv
      show xGo xft xNf xmt xtr d 90 ((((1 : Nat) : Int) + (#[39, 47, 55, 63, 71, 76] : Array Int).getD (x1 - 0).toNat 0).toNat) _ _ _ _
      rw [hv]
      exact h _
    · have h := h5 hv
      show xGo xft xNf xmt xtr d 90 ((((1 : Nat) : Int) + (#[39, 47, 55, 63, 71, 76] : Array Int).getD (x1 - 0).toNat 0).toNat) _ _ _ _
      rw [hv]
      exact h _
    · have h := h6 hv
      show xGo xft xNf xmt xtr d 90 ((((1 : Nat) : Int) + (#[39, 47, 55, 63, 71, 76] : Array Int).getD (x1 - 0).toNat 0).toNat) _ _ _ _
      rw [hv]
      exact h _
theorem c_Mf_count_40 {e : yE} {d : Nat} {M : xM} {Q : Int → xM → Prop} (hs : CSh e) (h :
    Q (M 2 0) M) : C_Mf_count_40 e d  M Q := by
  intro o1
  refine xGo.in ?_
  refine And.intro (cob_1 hs) ?_
  refine And.intro (cob_2 hs) ?_
  exact yI_ret h
theorem c_Mf_count_48 {e : yE} {d : Nat} {M : xM} {Q : Int → xM → Prop} (hs : CSh e) (h :
    Q (M 2 1) M) : C_Mf_count_48 e d  M Q := by
  intro o1
  refine xGo.in ?_
  refine And.intro (cob_1 hs) ?_
  refine And.intro (cob_2 hs) ?_
  exact yI_ret h
theorem c_Mf_count_56 {e : yE} {d : Nat} {M : xM} {Q : Int → xM → Prop} (hs : CSh e) (h :
    Q (M 8 1) M) : C_Mf_count_56 e d  M Q := by
  intro o1
  refine xGo.in ?_
  refine And.intro (cob_1 hs) ?_
  refine And.intro (ob5 (c5_8 hs)) ?_
  exact yI_ret h
theorem c_Mf_count_64 {e : yE} {d : Nat} {M : xM} {Q : Int → xM → Prop} (hs : CSh e) (h :
    Q (M 18 1) M) : C_Mf_count_64 e d  M Q := by
  intro o1
  refine xGo.in ?_
  refine And.intro (cob_1 hs) ?_
  refine And.intro (ob5 (c5_18 hs)) ?_
  exact yI_ret h
theorem c_Mf_count_72 {e : yE} {d : Nat} {M : xM} {Q : Int → xM → Prop} (hs : CSh e) (h :
    Q (M 1 4) M) : C_Mf_count_72 e d  M Q := by
  intro o1
  refine xGo.in ?_
  refine And.intro (cob_1 hs) ?_
  exact yI_ret h
theorem c_Mf_count_77 {e : yE} {d : Nat} {M : xM} {Q : Int → xM → Prop} (hs : CSh e) (h :
    C_Mf_allRows e d M (fun y2 M1 => 
    Q y2 M1)) : C_Mf_count_77 e d  M Q := by
  intro o1
  refine xGo.in ?_
  refine And.intro ⟨Nat.le_of_ble_eq_true rfl, Nat.le_of_ble_eq_true rfl, cob_1 hs⟩ ?_
  refine yI_use h (fun y2 M1 h => ?_)
  exact yI_ret h
theorem c_Mf_count_82 {e : yE} {d : Nat} {M : xM} {Q : Int → xM → Prop} (hs : CSh e) (h :
    Q (-1 : Int) M) : C_Mf_count_82 e d  M Q := by
  intro o1
  refine xGo.in ?_
  exact yI_ret h
theorem c_Mf_count {e : yE} {d : Nat} {x1 : Int} {M : xM} {Q : Int → xM → Prop} (h : C_Mf_count_0 e d x1 M Q) : C_Mf_count e (d + 1) x1 M Q := h
def C_Mf_check_0 (e : yE) (d : Nat) (M : xM) (Q : Int → yE → xM → Prop) : Prop := ∀ (o1 o2 : Option xV), xGo xft xNf xmt xtr d 91 0 [some (.inr (some 1)), o1, o2] [] (yS e M) (zI Q)
def C_Mf_check_2 (e : yE) (d : Nat) (x1 : Int) (M : xM) (Q : Int → yE → xM → Prop) : Prop := ∀ (o2 : Option xV), xGo xft xNf xmt xtr d 91 2 [some (.inr (some 1)), some (.inl x1), o2] [] (yS e M) (zI Q)
theorem c_Mf_check_0 {e : yE} {d : Nat} {M : xM} {Q : Int → yE → xM → Prop} (hs : CSh e) (h :
    C_Mf_check_2 e d (0 : Int) M Q) : C_Mf_check_0 e d  M Q := by
  intro o1 o2
  refine xGo.in ?_
  exact h _
theorem c_Mf_check_2 {e : yE} {d : Nat} {x1 : Int} {M : xM} {Q : Int → yE → xM → Prop} (hs : CSh e) (h :
    (rg x1 ∧ rg (M 1 4)) ∧ (((M 1 4) ≤ x1 → 
      (Q (1 : Int) e M)) ∧ 
    (¬ ((M 1 4) ≤ x1) → 
      ((0 ≤ x1 ∧ x1 < 20) ∧ 
      (∃ q1 : Nat, (M 28 x1 = (q1 : Int) ∧ XSh3 q1 e) ∧ 
      (C_Ma_isOfOneType e d q1 M (fun y3 M2 => 
      (rg y3) ∧ ((y3 = 0 → 
        (C_Mf_check_2 e d (x1 + 1) M2 Q)) ∧ 
      (¬ (y3 = 0) → 
        (C_Bu_stands e d q1 M2 (fun y6 e5 M4 => 
        yLe e e5 ∧ ((rg y6) ∧ ((y6 = 0 → 
          (C_Mf_check_2 e5 d (x1 + 1) M4 Q)) ∧ 
        (¬ (y6 = 0) → 
          (C_Mf_agrees e5 d q1 M4 (fun y8 M7 => 
          (rg y8) ∧ ((¬ y8 = 0 → 
            (C_Mf_check_2 e5 d (x1 + 1) M7 Q)) ∧ 
          (¬ (¬ y8 = 0) → 
            (Q (0 : Int) e5 M7))))))))))))))))))) : C_Mf_check_2 e d x1 M Q := by
  intro o2
  refine xGo.in ?_
  refine And.intro (cob_1 hs) ?_
  refine And.intro (⟨h.1.1, h.1.2⟩) (And.intro (fun c => ?_) (fun c => ?_))
  · replace h := h.2.1 c
    exact zI_ret h
  · replace h := h.2.2 c
    refine And.intro (cob_1 hs) ?_
    refine And.intro (xi_ldb (caa_28 hs) (h.1)) ?_
    replace h := h.2
    obtain ⟨q1, ⟨eq1, hq1⟩, h⟩ := h
    refine xgo_top (xr3 eq1) ?_
    refine And.intro ⟨Nat.le_of_ble_eq_true rfl, Nat.le_of_ble_eq_true rfl, ob3 hq1⟩ ?_
    refine yI_use h (fun y3 M2 h => ?_)
    refine And.intro (h.1) (And.intro (fun c => ?_) (fun c => ?_))
    · replace h := h.2.1 c
      exact h _
    · replace h := h.2.2 c
      refine And.intro (cob_1 hs) ?_
      refine And.intro ⟨Nat.le_of_ble_eq_true rfl, Nat.le_of_ble_eq_true rfl, cob_29 hs⟩ ?_
      refine zI_use h (fun y6 e5 M4 h => ?_)
      obtain ⟨hle, h⟩ := h
      replace hs := hs.le hle
      replace hq1 := hq1.le hle
      clear hle
      refine And.intro (h.1) (And.intro (fun c => ?_) (fun c => ?_))
      · replace h := h.2.1 c
        exact h _
      · replace h := h.2.2 c
        refine And.intro ⟨Nat.le_of_ble_eq_true rfl, Nat.le_of_ble_eq_true rfl, cob_1 hs⟩ ?_
        refine yI_use h (fun y8 M7 h => ?_)
        refine And.intro (h.1) (And.intro (fun c => ?_) (fun c => ?_))
        · replace h := h.2.1 c
          exact h _
        · replace h := h.2.2 c
          exact zI_ret h
theorem c_Mf_check {e : yE} {d : Nat} {M : xM} {Q : Int → yE → xM → Prop} (h : C_Mf_check_0 e d  M Q) : C_Mf_check e (d + 1)  M Q := h _ _
def C_Mf_give_0 (e : yE) (d : Nat) (x1 x2 x3 : Int) (M : xM) (Q : xM → Prop) : Prop := xGo xft xNf xmt xtr d 92 0 [some (.inr (some 1)), some (.inl x1), some (.inl x2), some (.inl x3)] [] (yS e M) (yV e Q)
theorem c_Mf_give_0 {e : yE} {d : Nat} {x1 x2 x3 : Int} {M : xM} {Q : xM → Prop} (hs : CSh e) (h :
    ∀ M1 : xM, M1 = xup M 58 (0 : Int) x1 → 
    (∀ M2 : xM, M2 = xup M1 58 (1 : Int) x2 → 
    (∀ M3 : xM, M3 = xup M2 58 (2 : Int) x3 → 
    (Q M3)))) : C_Mf_give_0 e d x1 x2 x3 M Q := by
  refine xGo.in ?_
  refine And.intro (cob_1 hs) ?_
  refine And.intro (xi_st (caa_58 hs) (⟨by decide, by decide⟩)) ?_
  obtain ⟨M1, hM1⟩ : ∃ z : xM, z = xup M 58 (0 : Int) x1 := ⟨_, rfl⟩
  refine xgo_st (e := e) (M := M1) (by subst hM1; rfl) ?_
  replace h := h M1 hM1
  refine And.intro (cob_1 hs) ?_
  refine And.intro (xi_st (caa_58 hs) (⟨by decide, by decide⟩)) ?_
  obtain ⟨M2, hM2⟩ : ∃ z : xM, z = xup M1 58 (1 : Int) x2 := ⟨_, rfl⟩
  refine xgo_st (e := e) (M := M2) (by subst hM2; rfl) ?_
  replace h := h M2 hM2
  refine And.intro (cob_1 hs) ?_
  refine And.intro (xi_st (caa_58 hs) (⟨by decide, by decide⟩)) ?_
  obtain ⟨M3, hM3⟩ : ∃ z : xM, z = xup M2 58 (2 : Int) x3 := ⟨_, rfl⟩
  refine xgo_st (e := e) (M := M3) (by subst hM3; rfl) ?_
  replace h := h M3 hM3
  exact yV_ret (r := .inl 0) h
theorem c_Mf_give {e : yE} {d : Nat} {x1 : Int} {x2 : Int} {x3 : Int} {M : xM} {Q : xM → Prop} (h : C_Mf_give_0 e d x1 x2 x3 M Q) : C_Mf_give e (d + 1) x1 x2 x3 M Q := h
def C_Mf_addMade_0 (e : yE) (d : Nat) (a1 : Nat) (x2 x3 : Int) (M : xM) (Q : Int → xM → Prop) : Prop := ∀ (o4 o5 : Option xV), xGo xft xNf xmt xtr d 93 0 [some (.inr (some 1)), some (.inr (some a1)), some (.inl x2), some (.inl x3), o4, o5] [] (yS e M) (yI e Q)
def C_Mf_addMade_28 (e : yE) (d : Nat) (a1 : Nat) (x2 x3 x4 x5 : Int) (M : xM) (Q : Int → xM → Prop) : Prop := xGo xft xNf xmt xtr d 93 28 [some (.inr (some 1)), some (.inr (some a1)), some (.inl x2), some (.inl x3), some (.inl x4), some (.inl x5)] [] (yS e M) (yI e Q)
theorem c_Mf_addMade_0 {e : yE} {d : Nat} {a1 : Nat} {x2 x3 : Int} {M : xM} {Q : Int → xM → Prop} (hs : CSh e) (h1 : XSh5 a1 e) (h :
    C_Ty_isMaker e d x2 x3 M (fun y2 M1 => 
    (rg y2) ∧ ((¬ y2 = 0 → 
      (C_Ty_partsOf e d x2 x3 M1 (fun y4 M3 => 
      C_Mf_addMade_28 e d a1 x2 x3 y4 (0 : Int) M3 Q))) ∧ 
    (¬ (¬ y2 = 0) → 
      (Q (-1 : Int) M1))))) : C_Mf_addMade_0 e d a1 x2 x3 M Q := by
  intro o4 o5
  refine xGo.in ?_
  refine And.intro (cob_1 hs) ?_
  refine And.intro ⟨Nat.le_of_ble_eq_true rfl, Nat.le_of_ble_eq_true rfl, cob_2 hs⟩ ?_
  refine yI_use h (fun y2 M1 h => ?_)
  refine And.intro (h.1) (And.intro (fun c => ?_) (fun c => ?_))
  · replace h := h.2.1 c
    refine And.intro (cob_1 hs) ?_
    refine And.intro ⟨Nat.le_of_ble_eq_true rfl, Nat.le_of_ble_eq_true rfl, cob_2 hs⟩ ?_
    refine yI_use h (fun y4 M3 h => ?_)
    exact h
  · replace h := h.2.2 c
    exact yI_ret h
theorem c_Mf_addMade_28 {e : yE} {d : Nat} {a1 : Nat} {x2 x3 x4 x5 : Int} {M : xM} {Q : Int → xM → Prop} (hs : CSh e) (h1 : XSh5 a1 e) (h :
    (rg x5 ∧ rg x4) ∧ ((x4 ≤ x5 → 
      (C_Tm_haveNamesApart e d a1 58 3 x4 M (fun y2 M1 => 
      (rg y2) ∧ ((¬ y2 = 0 → 
        (C_Tm_add e d a1 (4 : Int) x2 x3 58 3 x4 M1 (fun y4 M3 => 
        Q y4 M3))) ∧ 
      (¬ (¬ y2 = 0) → 
        (Q (-1 : Int) M1)))))) ∧ 
    (¬ (x4 ≤ x5) → 
      ((0 ≤ x5 ∧ x5 < 3) ∧ 
      (C_Ty_partTypeOf e d x2 x3 x5 M (fun y6 M5 => 
      C_Tm_isOf e d a1 (M 58 x5) y6 M5 (fun y8 M7 => 
      (rg y8) ∧ ((¬ y8 = 0 → 
        (C_Mf_addMade_28 e d a1 x2 x3 x4 (x5 + 1) M7 Q)) ∧ 
      (¬ (¬ y8 = 0) → 
        (Q (-1 : Int) M7)))))))))) : C_Mf_addMade_28 e d a1 x2 x3 x4 x5 M Q := by
  refine xGo.in ?_
  refine And.intro (⟨h.1.1, h.1.2⟩) (And.intro (fun c => ?_) (fun c => ?_))
  · replace h := h.2.1 c
    refine And.intro (cob_1 hs) ?_
    refine And.intro ⟨Nat.le_of_ble_eq_true rfl, Nat.le_of_ble_eq_true rfl, ob5 h1⟩ ?_
    refine yI_use h (fun y2 M1 h => ?_)
    refine And.intro (h.1) (And.intro (fun c => ?_) (fun c => ?_))
    · replace h := h.2.1 c
      refine And.intro (cob_1 hs) ?_
      refine And.intro ⟨Nat.le_of_ble_eq_true rfl, Nat.le_of_ble_eq_true rfl, ob5 h1⟩ ?_
      refine yI_use h (fun y4 M3 h => ?_)
      exact yI_ret h
    · replace h := h.2.2 c
      exact yI_ret h
  · replace h := h.2.2 c
    refine And.intro (cob_1 hs) ?_
    refine And.intro (xi_ld (caa_58 hs) (h.1)) ?_
    replace h := h.2
    refine And.intro (cob_1 hs) ?_
    refine And.intro ⟨Nat.le_of_ble_eq_true rfl, Nat.le_of_ble_eq_true rfl, cob_2 hs⟩ ?_
    refine yI_use h (fun y6 M5 h => ?_)
    refine And.intro ⟨Nat.le_of_ble_eq_true rfl, Nat.le_of_ble_eq_true rfl, ob5 h1⟩ ?_
    refine yI_use h (fun y8 M7 h => ?_)
    refine And.intro (h.1) (And.intro (fun c => ?_) (fun c => ?_))
    · replace h := h.2.1 c
      exact h
    · replace h := h.2.2 c
      exact yI_ret h
theorem c_Mf_addMade {e : yE} {d : Nat} {a1 : Nat} {x2 : Int} {x3 : Int} {M : xM} {Q : Int → xM → Prop} (h : C_Mf_addMade_0 e d a1 x2 x3 M Q) : C_Mf_addMade e (d + 1) a1 x2 x3 M Q := h _ _
def C_Mf_isMatch_0 (e : yE) (d : Nat) (x1 : Int) (M : xM) (Q : Int → xM → Prop) : Prop := xGo xft xNf xmt xtr d 94 0 [some (.inr (some 1)), some (.inl x1)] [] (yS e M) (yI e Q)
theorem c_Mf_isMatch_0 {e : yE} {d : Nat} {x1 : Int} {M : xM} {Q : Int → xM → Prop} (hs : CSh e) (h :
    (rg x1) ∧ ((x1 < 0 → 
      (Q (0 : Int) M)) ∧ 
    (¬ (x1 < 0) → 
      ((rg x1 ∧ rg (M 1 4)) ∧ (((M 1 4) ≤ x1 → 
        (Q (0 : Int) M)) ∧ 
      (¬ ((M 1 4) ≤ x1) → 
        (Q (1 : Int) M))))))) : C_Mf_isMatch_0 e d x1 M Q := by
  refine xGo.in ?_
  refine And.intro (h.1) (And.intro (fun c => ?_) (fun c => ?_))
  · replace h := h.2.1 c
    exact And.intro (by decide) (yI_ret h)
  · replace h := h.2.2 c
    refine And.intro (cob_1 hs) ?_
    refine And.intro (⟨h.1.1, h.1.2⟩) (And.intro (fun c => ?_) (fun c => ?_))
    · replace h := h.2.1 c
      exact And.intro (by decide) (yI_ret h)
    · replace h := h.2.2 c
      exact And.intro (by decide) (yI_ret h)
theorem c_Mf_isMatch {e : yE} {d : Nat} {x1 : Int} {M : xM} {Q : Int → xM → Prop} (h : C_Mf_isMatch_0 e d x1 M Q) : C_Mf_isMatch e (d + 1) x1 M Q := h
def C_Mf_isName_0 (e : yE) (d : Nat) (x0 : Int) (M : xM) (Q : Int → xM → Prop) : Prop := xGo xft xNf xmt xtr d 95 0 [some (.inl x0)] [] (yS e M) (yI e Q)
theorem c_Mf_isName_0 {e : yE} {d : Nat} {x0 : Int} {M : xM} {Q : Int → xM → Prop} (hs : CSh e) (h :
    (rg x0) ∧ ((x0 < 0 → 
      (Q (0 : Int) M)) ∧ 
    (¬ (x0 < 0) → 
      ((rg x0) ∧ (((16 : Int) ≤ x0 → 
        (Q (0 : Int) M)) ∧ 
      (¬ ((16 : Int) ≤ x0) → 
        (Q (1 : Int) M))))))) : C_Mf_isName_0 e d x0 M Q := by
  refine xGo.in ?_
  refine And.intro (h.1) (And.intro (fun c => ?_) (fun c => ?_))
  · replace h := h.2.1 c
    exact And.intro (by decide) (yI_ret h)
  · replace h := h.2.2 c
    refine And.intro (⟨h.1, rg_lit (by decide)⟩) (And.intro (fun c => ?_) (fun c => ?_))
    · replace h := h.2.1 c
      exact And.intro (by decide) (yI_ret h)
    · replace h := h.2.2 c
      exact And.intro (by decide) (yI_ret h)
theorem c_Mf_isName {e : yE} {d : Nat} {x0 : Int} {M : xM} {Q : Int → xM → Prop} (h : C_Mf_isName_0 e d x0 M Q) : C_Mf_isName e (d + 1) x0 M Q := h
def C_Mf_inBits_0 (e : yE) (d : Nat) (x0 x1 : Int) (M : xM) (Q : Int → xM → Prop) : Prop := xGo xft xNf xmt xtr d 96 0 [some (.inl x0), some (.inl x1)] [] (yS e M) (yI e Q)
theorem c_Mf_inBits_0 {e : yE} {d : Nat} {x0 x1 : Int} {M : xM} {Q : Int → xM → Prop} (hs : CSh e) (h :
    (rg (xand32 (xshr32 x0 x1) (1 : Int))) ∧ ((¬ (xand32 (xshr32 x0 x1) (1 : Int)) = (1 : Int) → 
      (Q (0 : Int) M)) ∧ 
    (¬ (¬ (xand32 (xshr32 x0 x1) (1 : Int)) = (1 : Int)) → 
      (Q (1 : Int) M)))) : C_Mf_inBits_0 e d x0 x1 M Q := by
  refine xGo.in ?_
  refine And.intro (⟨h.1, rg_lit (by decide)⟩) (And.intro (fun c => ?_) (fun c => ?_))
  · replace h := h.2.1 c
    exact And.intro (by decide) (yI_ret h)
  · replace h := h.2.2 c
    exact And.intro (by decide) (yI_ret h)
theorem c_Mf_inBits {e : yE} {d : Nat} {x0 : Int} {x1 : Int} {M : xM} {Q : Int → xM → Prop} (h : C_Mf_inBits_0 e d x0 x1 M Q) : C_Mf_inBits e (d + 1) x0 x1 M Q := h
def C_Mf_isGuard_0 (e : yE) (d : Nat) (x1 x2 x3 : Int) (M : xM) (Q : Int → xM → Prop) : Prop := ∀ (o4 o5 : Option xV), xGo xft xNf xmt xtr d 97 0 [some (.inr (some 1)), some (.inl x1), some (.inl x2), some (.inl x3), o4, o5] [] (yS e M) (yI e Q)
def C_Mf_isGuard_6 (e : yE) (d : Nat) (x1 x2 x3 x4 x5 : Int) (M : xM) (Q : Int → xM → Prop) : Prop := xGo xft xNf xmt xtr d 97 6 [some (.inr (some 1)), some (.inl x1), some (.inl x2), some (.inl x3), some (.inl x4), some (.inl x5)] [] (yS e M) (yI e Q)
theorem c_Mf_isGuard_0 {e : yE} {d : Nat} {x1 x2 x3 : Int} {M : xM} {Q : Int → xM → Prop} (hs : CSh e) (h :
    C_Mf_isGuard_6 e d x1 x2 x3 (0 : Int) (0 : Int) M Q) : C_Mf_isGuard_0 e d x1 x2 x3 M Q := by
  intro o4 o5
  refine xGo.in ?_
  exact h
theorem c_Mf_isGuard_6 {e : yE} {d : Nat} {x1 x2 x3 x4 x5 : Int} {M : xM} {Q : Int → xM → Prop} (hs : CSh e) (h :
    (rg x5 ∧ rg x3) ∧ ((x3 ≤ x5 → 
      (C_Mf_isName e d x1 M (fun y2 M1 => 
      (rg y2) ∧ ((y2 = 0 → 
        (Q (0 : Int) M1)) ∧ 
      (¬ (y2 = 0) → 
        (C_Mf_isName e d x2 M1 (fun y4 M3 => 
        (rg y4) ∧ ((y4 = 0 → 
          (Q (0 : Int) M3)) ∧ 
        (¬ (y4 = 0) → 
          (C_Mf_inBits e d x4 x1 M3 (fun y6 M5 => 
          (rg y6) ∧ ((y6 = 0 → 
            (Q (0 : Int) M5)) ∧ 
          (¬ (y6 = 0) → 
            (C_Mf_inBits e d x4 x2 M5 (fun y8 M7 => 
            (rg y8) ∧ ((y8 = 0 → 
              (Q (0 : Int) M7)) ∧ 
            (¬ (y8 = 0) → 
              (Q (1 : Int) M7)))))))))))))))))) ∧ 
    (¬ (x3 ≤ x5) → 
      ((0 ≤ x5 ∧ x5 < 3) ∧ 
      ((0 ≤ (M 58 x5) ∧ (M 58 x5) < 300) ∧ 
      ((rg (M 27 (M 58 x5))) ∧ (((M 27 (M 58 x5)) = 0 → 
        ((0 ≤ x5 ∧ x5 < 3) ∧ 
        ((0 ≤ (M 58 x5) ∧ (M 58 x5) < 300) ∧ 
        (C_Mf_isGuard_6 e d x1 x2 x3 (xor32 x4 (M 26 (M 58 x5))) (x5 + 1) M Q)))) ∧ 
      (¬ ((M 27 (M 58 x5)) = 0) → 
        (Q (0 : Int) M))))))))) : C_Mf_isGuard_6 e d x1 x2 x3 x4 x5 M Q := by
  refine xGo.in ?_
  refine And.intro (⟨h.1.1, h.1.2⟩) (And.intro (fun c => ?_) (fun c => ?_))
  · replace h := h.2.1 c
    refine And.intro ⟨Nat.le_of_ble_eq_true rfl, Nat.le_of_ble_eq_true rfl, trivial⟩ ?_
    refine yI_use h (fun y2 M1 h => ?_)
    refine And.intro (h.1) (And.intro (fun c => ?_) (fun c => ?_))
    · replace h := h.2.1 c
      exact And.intro (by decide) (yI_ret h)
    · replace h := h.2.2 c
      refine And.intro ⟨Nat.le_of_ble_eq_true rfl, Nat.le_of_ble_eq_true rfl, trivial⟩ ?_
      refine yI_use h (fun y4 M3 h => ?_)
      refine And.intro (h.1) (And.intro (fun c => ?_) (fun c => ?_))
      · replace h := h.2.1 c
        exact And.intro (by decide) (yI_ret h)
      · replace h := h.2.2 c
        refine And.intro ⟨Nat.le_of_ble_eq_true rfl, Nat.le_of_ble_eq_true rfl, trivial⟩ ?_
        refine yI_use h (fun y6 M5 h => ?_)
        refine And.intro (h.1) (And.intro (fun c => ?_) (fun c => ?_))
        · replace h := h.2.1 c
          exact And.intro (by decide) (yI_ret h)
        · replace h := h.2.2 c
          refine And.intro ⟨Nat.le_of_ble_eq_true rfl, Nat.le_of_ble_eq_true rfl, trivial⟩ ?_
          refine yI_use h (fun y8 M7 h => ?_)
          refine And.intro (h.1) (And.intro (fun c => ?_) (fun c => ?_))
          · replace h := h.2.1 c
            exact And.intro (by decide) (yI_ret h)
          · replace h := h.2.2 c
            exact And.intro (by decide) (yI_ret h)
  · replace h := h.2.2 c
    refine And.intro (cob_1 hs) ?_
    refine And.intro (ob5 (c5_18 hs)) ?_
    refine And.intro (cob_1 hs) ?_
    refine And.intro (xi_ld (caa_58 hs) (h.1)) ?_
    replace h := h.2
    refine And.intro (xi_ldb (caa_27 hs) (h.1)) ?_
    replace h := h.2
    refine And.intro (h.1) (And.intro (fun c => ?_) (fun c => ?_))
    · replace h := h.2.1 c
      refine And.intro (cob_1 hs) ?_
      refine And.intro (ob5 (c5_18 hs)) ?_
      refine And.intro (cob_1 hs) ?_
      refine And.intro (xi_ld (caa_58 hs) (h.1)) ?_
      replace h := h.2
      refine And.intro (xi_ld (caa_26 hs) (h.1)) ?_
      replace h := h.2
      exact h
    · replace h := h.2.2 c
      exact And.intro (by decide) (yI_ret h)
theorem c_Mf_isGuard {e : yE} {d : Nat} {x1 : Int} {x2 : Int} {x3 : Int} {M : xM} {Q : Int → xM → Prop} (h : C_Mf_isGuard_0 e d x1 x2 x3 M Q) : C_Mf_isGuard e (d + 1) x1 x2 x3 M Q := h _ _
def C_Mf_allRows_0 (e : yE) (d : Nat) (M : xM) (Q : Int → xM → Prop) : Prop := ∀ (o1 o2 : Option xV), xGo xft xNf xmt xtr d 98 0 [some (.inr (some 1)), o1, o2] [] (yS e M) (yI e Q)
def C_Mf_allRows_4 (e : yE) (d : Nat) (x1 x2 : Int) (M : xM) (Q : Int → xM → Prop) : Prop := xGo xft xNf xmt xtr d 98 4 [some (.inr (some 1)), some (.inl x1), some (.inl x2)] [] (yS e M) (yI e Q)
theorem c_Mf_allRows_0 {e : yE} {d : Nat} {M : xM} {Q : Int → xM → Prop} (hs : CSh e) (h :
    C_Mf_allRows_4 e d (0 : Int) (0 : Int) M Q) : C_Mf_allRows_0 e d  M Q := by
  intro o1 o2
  refine xGo.in ?_
  exact h
theorem c_Mf_allRows_4 {e : yE} {d : Nat} {x1 x2 : Int} {M : xM} {Q : Int → xM → Prop} (hs : CSh e) (h :
    (rg x2 ∧ rg (M 1 4)) ∧ (((M 1 4) ≤ x2 → 
      (Q x1 M)) ∧ 
    (¬ ((M 1 4) ≤ x2) → 
      ((0 ≤ x2 ∧ x2 < 20) ∧ 
      (∃ q1 : Nat, (M 28 x2 = (q1 : Int) ∧ XSh3 q1 e) ∧ 
      (C_Mf_allRows_4 e d (x1 + (M q1 2)) (x2 + 1) M Q)))))) : C_Mf_allRows_4 e d x1 x2 M Q := by
  refine xGo.in ?_
  refine And.intro (cob_1 hs) ?_
  refine And.intro (⟨h.1.1, h.1.2⟩) (And.intro (fun c => ?_) (fun c => ?_))
  · replace h := h.2.1 c
    exact yI_ret h
  · replace h := h.2.2 c
    refine And.intro (cob_1 hs) ?_
    refine And.intro (xi_ldb (caa_28 hs) (h.1)) ?_
    replace h := h.2
    obtain ⟨q1, ⟨eq1, hq1⟩, h⟩ := h
    refine xgo_top (xr3 eq1) ?_
    refine And.intro (ob3 hq1) ?_
    exact h
theorem c_Mf_allRows {e : yE} {d : Nat} {M : xM} {Q : Int → xM → Prop} (h : C_Mf_allRows_0 e d  M Q) : C_Mf_allRows e (d + 1)  M Q := h _ _
def C_Mf_agrees_0 (e : yE) (d : Nat) (a1 : Nat) (M : xM) (Q : Int → xM → Prop) : Prop := ∀ (o2 o3 : Option xV), xGo xft xNf xmt xtr d 99 0 [some (.inr (some 1)), some (.inr (some a1)), o2, o3] [] (yS e M) (yI e Q)
def C_Mf_agrees_17 (e : yE) (d : Nat) (a1 : Nat) (x3 : Int) (M : xM) (Q : Int → xM → Prop) : Prop := ∀ (o2 : Option xV), xGo xft xNf xmt xtr d 99 17 [some (.inr (some 1)), some (.inr (some a1)), o2, some (.inl x3)] [] (yS e M) (yI e Q)
theorem c_Mf_agrees_0 {e : yE} {d : Nat} {a1 : Nat} {M : xM} {Q : Int → xM → Prop} (hs : CSh e) (h1 : XSh3 a1 e) (h :
    (rg ((M 8 1) - (30 : Int))) ∧ 
    (C_Mf_agrees_17 e d a1 (if (0 : Int) < ((M 8 1) - (30 : Int)) then ((M 8 1) - (30 : Int)) else (0 : Int)) M Q)) : C_Mf_agrees_0 e d a1 M Q := by
  intro o2 o3
  refine xGo.in ?_
  refine And.intro (cob_1 hs) ?_
  refine And.intro (ob5 (c5_8 hs)) ?_
  refine And.intro (⟨Nat.le_of_ble_eq_true rfl, rg_lit (by decide), h.1⟩) ?_
  replace h := h.2
  exact h _
theorem c_Mf_agrees_17 {e : yE} {d : Nat} {a1 : Nat} {x3 : Int} {M : xM} {Q : Int → xM → Prop} (hs : CSh e) (h1 : XSh3 a1 e) (h :
    (rg x3 ∧ rg (M 8 1)) ∧ (((M 8 1) ≤ x3 → 
      (Q (1 : Int) M)) ∧ 
    (¬ ((M 8 1) ≤ x3) → 
      ((0 ≤ x3 ∧ x3 < 300) ∧ 
      ((rg (M 10 x3) ∧ rg (M (a1 + 1) (0 : Int))) ∧ ((¬ (M 10 x3) = (M (a1 + 1) (0 : Int)) → 
        (C_Mf_agrees_17 e d a1 (x3 + 1) M Q)) ∧ 
      (¬ (¬ (M 10 x3) = (M (a1 + 1) (0 : Int))) → 
        (C_Mf_give e d x3 x3 x3 M (fun M1 => 
        C_Wa_follow e d 48 a1 58 3 M1 (fun y3 M2 => 
        C_Ju_rowFor e d a1 58 3 M2 (fun y5 M4 => 
        (rg y3 ∧ rg y5) ∧ ((y3 = y5 → 
          (C_Mf_agrees_17 e d a1 (x3 + 1) M4 Q)) ∧ 
        (¬ (y3 = y5) → 
          (Q (0 : Int) M4)))))))))))))) : C_Mf_agrees_17 e d a1 x3 M Q := by
  intro o2
  refine xGo.in ?_
  refine And.intro (cob_1 hs) ?_
  refine And.intro (ob5 (c5_8 hs)) ?_
  refine And.intro (⟨h.1.1, h.1.2⟩) (And.intro (fun c => ?_) (fun c => ?_))
  · replace h := h.2.1 c
    exact And.intro (by decide) (yI_ret h)
  · replace h := h.2.2 c
    refine And.intro (cob_1 hs) ?_
    refine And.intro (ob5 (c5_8 hs)) ?_
    refine And.intro (xi_ld (caa_10 hs) (h.1)) ?_
    replace h := h.2
    refine And.intro (ob3 h1) ?_
    refine And.intro (xi_ld (a3_1 h1) (⟨by decide, by decide⟩)) ?_
    refine And.intro (⟨h.1.1, h.1.2⟩) (And.intro (fun c => ?_) (fun c => ?_))
    · replace h := h.2.1 c
      exact h _
    · replace h := h.2.2 c
      refine And.intro ⟨Nat.le_of_ble_eq_true rfl, Nat.le_of_ble_eq_true rfl, cob_1 hs⟩ ?_
      refine yV_use h (fun _ M1 h => ?_)
      refine And.intro (cob_1 hs) ?_
      refine And.intro (cob_1 hs) ?_
      refine And.intro ⟨Nat.le_of_ble_eq_true rfl, Nat.le_of_ble_eq_true rfl, ob8 (c8_48 hs)⟩ ?_
      refine yI_use h (fun y3 M2 h => ?_)
      refine And.intro (cob_1 hs) ?_
      refine And.intro (cob_1 hs) ?_
      refine And.intro ⟨Nat.le_of_ble_eq_true rfl, Nat.le_of_ble_eq_true rfl, cob_51 hs⟩ ?_
      refine yI_use h (fun y5 M4 h => ?_)
      refine And.intro (⟨h.1.1, h.1.2⟩) (And.intro (fun c => ?_) (fun c => ?_))
      · replace h := h.2.1 c
        exact h _
      · replace h := h.2.2 c
        exact And.intro (by decide) (yI_ret h)
theorem c_Mf_agrees {e : yE} {d : Nat} {a1 : Nat} {M : xM} {Q : Int → xM → Prop} (h : C_Mf_agrees_0 e d a1 M Q) : C_Mf_agrees e (d + 1) a1 M Q := h _ _
def C_Ar_fill_0 (e : yE) (d : Nat) (a0 : Nat) (n0 : Nat) (x1 : Int) (M : xM) (Q : xM → Prop) : Prop := ∀ (o2 o3 : Option xV), xGo xft xNf xmt xtr d 160 0 [some (.inr (some a0)), some (.inl x1), o2, o3] [] (yS e M) (yV e Q)
def C_Ar_fill_5 (e : yE) (d : Nat) (a0 : Nat) (n0 : Nat) (x1 x2 x3 : Int) (M : xM) (Q : xM → Prop) : Prop := xGo xft xNf xmt xtr d 160 5 [some (.inr (some a0)), some (.inl x1), some (.inl x2), some (.inl x3)] [] (yS e M) (yV e Q)
theorem c_Ar_fill_0 {e : yE} {d : Nat} {a0 : Nat} {n0 : Nat} {x1 : Int} {M : xM} {Q : xM → Prop} (hs : CSh e) (h0 : yA e a0 1 n0) (h :
    C_Ar_fill_5 e d a0 n0 x1 (0 : Int) (n0 : Int) M Q) : C_Ar_fill_0 e d a0 n0 x1 M Q := by
  intro o2 o3
  refine xGo.in ?_
  refine And.intro (xi_len h0) ?_
  refine xgo_top (xlen_v h0) ?_
  exact h
theorem c_Ar_fill_5 {e : yE} {d : Nat} {a0 : Nat} {n0 : Nat} {x1 x2 x3 : Int} {M : xM} {Q : xM → Prop} (hs : CSh e) (h0 : yA e a0 1 n0) (h :
    (rg x2 ∧ rg x3) ∧ ((x3 ≤ x2 → 
      (Q M)) ∧ 
    (¬ (x3 ≤ x2) → 
      ((0 ≤ x2 ∧ x2 < (n0 : Int)) ∧ 
      (∀ M1 : xM, M1 = xup M a0 x2 x1 → 
      (C_Ar_fill_5 e d a0 n0 x1 (x2 + 1) x3 M1 Q)))))) : C_Ar_fill_5 e d a0 n0 x1 x2 x3 M Q := by
  refine xGo.in ?_
  refine And.intro (⟨h.1.1, h.1.2⟩) (And.intro (fun c => ?_) (fun c => ?_))
  · replace h := h.2.1 c
    exact yV_ret (r := .inl 0) h
  · replace h := h.2.2 c
    refine And.intro (xi_st (h0) (h.1)) ?_
    replace h := h.2
    obtain ⟨M1, hM1⟩ : ∃ z : xM, z = xup M a0 x2 x1 := ⟨_, rfl⟩
    refine xgo_st (e := e) (M := M1) (by subst hM1; rfl) ?_
    replace h := h M1 hM1
    exact h
theorem c_Ar_fill {e : yE} {d : Nat} {a0 : Nat} {n0 : Nat} {x1 : Int} {M : xM} {Q : xM → Prop} (h : C_Ar_fill_0 e d a0 n0 x1 M Q) : C_Ar_fill e (d + 1) a0 n0 x1 M Q := h _ _
