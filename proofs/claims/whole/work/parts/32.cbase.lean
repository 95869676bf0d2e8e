/-! ===== laid by dec2.py: the class's cells ===== -/
/-- cells are made, none is lost -/
def yLe (e e1 : yE) : Prop := e.1 ≤ e1.1 ∧ ∀ k, k < e.1 → e1.2.2 k = e.2.2 k
theorem yLe.rf {e : yE} : yLe e e := ⟨Nat.le_refl _, fun _ _ => rfl⟩
theorem yLe.tr {e e1 e2 : yE} (h : yLe e e1) (h2 : yLe e1 e2) : yLe e e2 := ⟨Nat.le_trans h.1 h2.1, fun k hk => by rw [h2.2 k (Nat.lt_of_lt_of_le hk h.1)]; exact h.2 k hk⟩
theorem yA.le {e e1 : yE} {a t n : Nat} (h : yA e a t n) (hle : yLe e e1) : yA e1 a t n := ⟨h.1, Nat.lt_of_lt_of_le h.2.1 hle.1, by rw [hle.2 a h.2.1]; exact h.2.2.1, h.2.2.2⟩
def zI (Q : Int → yE → xM → Prop) : xV → xS → Prop := fun r S => ∃ x e M, r = .inl x ∧ S = yS e M ∧ Q x e M
def zV (Q : yE → xM → Prop) : xV → xS → Prop := fun _ S => ∃ e M, S = yS e M ∧ Q e M
def zR (Q : Nat → yE → xM → Prop) : xV → xS → Prop := fun r S => ∃ q e M, r = .inr (some q) ∧ S = yS e M ∧ Q q e M
theorem zI_ret {Q : Int → yE → xM → Prop} {x : Int} {e : yE} {M : xM} (h : Q x e M) : zI Q (.inl x) (yS e M) := ⟨x, e, M, rfl, rfl, h⟩
theorem zV_ret {Q : yE → xM → Prop} {r : xV} {e : yE} {M : xM} (h : Q e M) : zV Q r (yS e M) := ⟨e, M, rfl, h⟩
theorem zI_use {d mu : Nat} {as : List xV} {S : xS} {K : Int → yE → xM → Prop} {P : xV → xS → Prop} (h : xcall xft xNf xmt xtr d mu as S (zI K)) (hP : ∀ x e M, K x e M → P (.inl x) (yS e M)) : xcall xft xNf xmt xtr d mu as S P :=
  xcall_mono d d mu as _ _ _ (Nat.le_refl _) (fun r S' q => by obtain ⟨x, e, M', rfl, rfl, hk⟩ := q; exact hP x e M' hk) h
theorem zV_use {d mu : Nat} {as : List xV} {S : xS} {K : yE → xM → Prop} {P : xV → xS → Prop} (h : xcall xft xNf xmt xtr d mu as S (zV K)) (hP : ∀ r e M, K e M → P r (yS e M)) : xcall xft xNf xmt xtr d mu as S P :=
  xcall_mono d d mu as _ _ _ (Nat.le_refl _) (fun r S' q => by obtain ⟨e, M', rfl, hk⟩ := q; exact hP r e M' hk) h
theorem gob {a b p : Prop} (h : a ∧ b) (hp : p) : a ∧ b ∧ p := ⟨h.1, h.2, hp⟩
theorem xref_nat2 (k : Nat) : xref (k : Int) = some k := by
  have h : ¬ ((k : Int) < 0) := by omega
  simp [xref, h]
theorem xi_cpy {e : yE} {M : xM} {f d n0 n1 : Nat} {sp dp n : Int} {st : List xV} (hf : yA e f 1 n0) (hd : yA e d 1 n1) (hne : ¬ f = d) (hr : 0 ≤ sp ∧ 0 ≤ dp ∧ 0 ≤ n ∧ sp + n ≤ (n0 : Int) ∧ dp + n ≤ (n1 : Int)) (hb : n0 ≤ 50000000 ∧ n1 ≤ 50000000) (hl : st.length ≤ 8) :
    (0 < f ∧ f < (yS e M).1 ∧ ((yS e M).2.2.1 f).1 = 1) ∧ (0 < d ∧ d < (yS e M).1 ∧ ((yS e M).2.2.1 d).1 = 1) ∧ ¬ f = d ∧ (0 ≤ sp ∧ 0 ≤ dp ∧ 0 ≤ n ∧ sp + n ≤ (((yS e M).2.2.1 f).2 : Int) ∧ dp + n ≤ (((yS e M).2.2.1 d).2 : Int)) ∧ (((yS e M).2.2.1 f).2 ≤ 50000000 ∧ ((yS e M).2.2.1 d).2 ≤ 50000000) ∧ st.length ≤ 8 := by
  have e1 : (yS e M).2.2.1 f = (1, n0) := hf.2.2.1
  have e2 : (yS e M).2.2.1 d = (1, n1) := hd.2.2.1
  rw [e1, e2]
  exact ⟨⟨hf.1, hf.2.1, rfl⟩, ⟨hd.1, hd.2.1, rfl⟩, hne, hr, hb, hl⟩
theorem xg3 {a j k q : Nat} {M : xM} (ht : (xft a j).1 = 3) (h : M k (j : Int) = (q : Int)) : xget xft a j k M = .inr (some q) := by
  unfold xget
  rw [ht, h, xref_nat2]
  rfl
theorem xr3 {v : Int} {q : Nat} (h : v = (q : Int)) : (.inr (xref v) : xV) = .inr (some q) := by rw [h, xref_nat2]
theorem xgo_top {T : Nat → Nat → Nat × Nat} {N : Nat → Nat} {mt : xMt} {C : Nat → List xV → xS → (xV → xS → Prop) → Prop} {K : Nat → xL → List xV → xS → Prop} {Q : xV → xS → Prop} {L : List xI} {ls : xL} {st : List xV} {S : xS} {v v' : xV} (hv : v = v') (h : xgo T N mt C K Q L 0 ls (v' :: st) S) : xgo T N mt C K Q L 0 ls (v :: st) S := hv ▸ h
theorem xlen_v {e : yE} {M : xM} {a n : Nat} (h : yA e a 1 n) : (.inl ((((yS e M).2.2.1 a).2 : Nat) : Int) : xV) = .inl (n : Int) := by
  have e1 : (yS e M).2.2.1 a = (1, n) := h.2.2.1
  rw [e1]
theorem xi_len {e : yE} {M : xM} {a n : Nat} (h : yA e a 1 n) : a < (yS e M).1 ∧ ((yS e M).2.2.1 a).1 = (if a = 0 then 5 else 1) := by
  rw [if_neg (Nat.ne_of_gt h.1)]; exact ⟨h.2.1, (congrArg Prod.fst h.2.2.1 : (e.2.2 a).1 = 1)⟩
def CShT : List (Nat × Nat × Nat) := [(1, 19, 0), (2, 17, 0), (3, 1, 8), (4, 1, 48), (5, 1, 144), (6, 1, 8), (7, 1, 8), (8, 15, 0), (9, 1, 300), (10, 1, 300), (11, 1, 300), (12, 1, 300), (13, 1, 300), (14, 1, 900), (15, 1, 300), (16, 1, 300), (17, 2, 300), (18, 15, 0), (19, 1, 300), (20, 1, 300), (21, 1, 300), (22, 1, 300), (23, 1, 300), (24, 1, 900), (25, 1, 300), (26, 1, 300), (27, 2, 300), (28, 4, 20), (29, 10, 0), (30, 11, 0), (34, 11, 0), (38, 1, 120), (39, 1, 2880), (40, 1, 120), (41, 1, 24), (42, 1, 24), (43, 1, 3), (44, 1, 120), (45, 18, 0), (46, 1, 16), (47, 1, 360), (48, 18, 0), (49, 1, 16), (50, 1, 360), (51, 12, 0), (52, 1, 16), (53, 14, 0), (54, 1, 4000), (55, 1, 4000), (56, 1, 360), (57, 1, 160), (58, 1, 3)]
/-- the class's fixed cells -/
def CSh (e : yE) : Prop := 58 < e.1 ∧ ∀ q ∈ CShT, q.1 ≤ 58 → e.2.2 q.1 = q.2
theorem CSh.le {e e1 : yE} (h : CSh e) (hle : yLe e e1) : CSh e1 := ⟨Nat.lt_of_lt_of_le h.1 hle.1, fun q hq hb => by rw [hle.2 q.1 (Nat.lt_of_le_of_lt hb h.1)]; exact h.2 q hq hb⟩
theorem cob_1 {e : yE} {M : xM} (h : CSh e) : 0 < 1 ∧ xob (yS e M) 1 9 := ⟨by decide, (by show 1 < e.1; have := h.1; omega), (congrArg Prod.fst (h.2 (1, 19, 0) (List.mem_of_getElem? (i := 0) rfl) (by decide)) : (e.2.2 1).1 = 19)⟩
theorem cob_2 {e : yE} {M : xM} (h : CSh e) : 0 < 2 ∧ xob (yS e M) 2 7 := ⟨by decide, (by show 2 < e.1; have := h.1; omega), (congrArg Prod.fst (h.2 (2, 17, 0) (List.mem_of_getElem? (i := 1) rfl) (by decide)) : (e.2.2 2).1 = 17)⟩
theorem caa_3 {e : yE} (h : CSh e) : yA e 3 1 8 := ⟨by decide, (by have := h.1; omega), h.2 (3, 1, 8) (List.mem_of_getElem? (i := 2) rfl) (by decide), by decide⟩
theorem caa_4 {e : yE} (h : CSh e) : yA e 4 1 48 := ⟨by decide, (by have := h.1; omega), h.2 (4, 1, 48) (List.mem_of_getElem? (i := 3) rfl) (by decide), by decide⟩
theorem caa_5 {e : yE} (h : CSh e) : yA e 5 1 144 := ⟨by decide, (by have := h.1; omega), h.2 (5, 1, 144) (List.mem_of_getElem? (i := 4) rfl) (by decide), by decide⟩
theorem caa_6 {e : yE} (h : CSh e) : yA e 6 1 8 := ⟨by decide, (by have := h.1; omega), h.2 (6, 1, 8) (List.mem_of_getElem? (i := 5) rfl) (by decide), by decide⟩
theorem caa_7 {e : yE} (h : CSh e) : yA e 7 1 8 := ⟨by decide, (by have := h.1; omega), h.2 (7, 1, 8) (List.mem_of_getElem? (i := 6) rfl) (by decide), by decide⟩
theorem cob_8 {e : yE} {M : xM} (h : CSh e) : 0 < 8 ∧ xob (yS e M) 8 5 := ⟨by decide, (by show 8 < e.1; have := h.1; omega), (congrArg Prod.fst (h.2 (8, 15, 0) (List.mem_of_getElem? (i := 7) rfl) (by decide)) : (e.2.2 8).1 = 15)⟩
theorem caa_9 {e : yE} (h : CSh e) : yA e 9 1 300 := ⟨by decide, (by have := h.1; omega), h.2 (9, 1, 300) (List.mem_of_getElem? (i := 8) rfl) (by decide), by decide⟩
theorem caa_10 {e : yE} (h : CSh e) : yA e 10 1 300 := ⟨by decide, (by have := h.1; omega), h.2 (10, 1, 300) (List.mem_of_getElem? (i := 9) rfl) (by decide), by decide⟩
theorem caa_11 {e : yE} (h : CSh e) : yA e 11 1 300 := ⟨by decide, (by have := h.1; omega), h.2 (11, 1, 300) (List.mem_of_getElem? (i := 10) rfl) (by decide), by decide⟩
theorem caa_12 {e : yE} (h : CSh e) : yA e 12 1 300 := ⟨by decide, (by have := h.1; omega), h.2 (12, 1, 300) (List.mem_of_getElem? (i := 11) rfl) (by decide), by decide⟩
theorem caa_13 {e : yE} (h : CSh e) : yA e 13 1 300 := ⟨by decide, (by have := h.1; omega), h.2 (13, 1, 300) (List.mem_of_getElem? (i := 12) rfl) (by decide), by decide⟩
theorem caa_14 {e : yE} (h : CSh e) : yA e 14 1 900 := ⟨by decide, (by have := h.1; omega), h.2 (14, 1, 900) (List.mem_of_getElem? (i := 13) rfl) (by decide), by decide⟩
theorem caa_15 {e : yE} (h : CSh e) : yA e 15 1 300 := ⟨by decide, (by have := h.1; omega), h.2 (15, 1, 300) (List.mem_of_getElem? (i := 14) rfl) (by decide), by decide⟩
theorem caa_16 {e : yE} (h : CSh e) : yA e 16 1 300 := ⟨by decide, (by have := h.1; omega), h.2 (16, 1, 300) (List.mem_of_getElem? (i := 15) rfl) (by decide), by decide⟩
theorem caa_17 {e : yE} (h : CSh e) : yA e 17 2 300 := ⟨by decide, (by have := h.1; omega), h.2 (17, 2, 300) (List.mem_of_getElem? (i := 16) rfl) (by decide), by decide⟩
theorem cob_18 {e : yE} {M : xM} (h : CSh e) : 0 < 18 ∧ xob (yS e M) 18 5 := ⟨by decide, (by show 18 < e.1; have := h.1; omega), (congrArg Prod.fst (h.2 (18, 15, 0) (List.mem_of_getElem? (i := 17) rfl) (by decide)) : (e.2.2 18).1 = 15)⟩
theorem caa_19 {e : yE} (h : CSh e) : yA e 19 1 300 := ⟨by decide, (by have := h.1; omega), h.2 (19, 1, 300) (List.mem_of_getElem? (i := 18) rfl) (by decide), by decide⟩
theorem caa_20 {e : yE} (h : CSh e) : yA e 20 1 300 := ⟨by decide, (by have := h.1; omega), h.2 (20, 1, 300) (List.mem_of_getElem? (i := 19) rfl) (by decide), by decide⟩
theorem caa_21 {e : yE} (h : CSh e) : yA e 21 1 300 := ⟨by decide, (by have := h.1; omega), h.2 (21, 1, 300) (List.mem_of_getElem? (i := 20) rfl) (by decide), by decide⟩
theorem caa_22 {e : yE} (h : CSh e) : yA e 22 1 300 := ⟨by decide, (by have := h.1; omega), h.2 (22, 1, 300) (List.mem_of_getElem? (i := 21) rfl) (by decide), by decide⟩
theorem caa_23 {e : yE} (h : CSh e) : yA e 23 1 300 := ⟨by decide, (by have := h.1; omega), h.2 (23, 1, 300) (List.mem_of_getElem? (i := 22) rfl) (by decide), by decide⟩
theorem caa_24 {e : yE} (h : CSh e) : yA e 24 1 900 := ⟨by decide, (by have := h.1; omega), h.2 (24, 1, 900) (List.mem_of_getElem? (i := 23) rfl) (by decide), by decide⟩
theorem caa_25 {e : yE} (h : CSh e) : yA e 25 1 300 := ⟨by decide, (by have := h.1; omega), h.2 (25, 1, 300) (List.mem_of_getElem? (i := 24) rfl) (by decide), by decide⟩
theorem caa_26 {e : yE} (h : CSh e) : yA e 26 1 300 := ⟨by decide, (by have := h.1; omega), h.2 (26, 1, 300) (List.mem_of_getElem? (i := 25) rfl) (by decide), by decide⟩
theorem caa_27 {e : yE} (h : CSh e) : yA e 27 2 300 := ⟨by decide, (by have := h.1; omega), h.2 (27, 2, 300) (List.mem_of_getElem? (i := 26) rfl) (by decide), by decide⟩
theorem caa_28 {e : yE} (h : CSh e) : yA e 28 4 20 := ⟨by decide, (by have := h.1; omega), h.2 (28, 4, 20) (List.mem_of_getElem? (i := 27) rfl) (by decide), by decide⟩
theorem cob_29 {e : yE} {M : xM} (h : CSh e) : 0 < 29 ∧ xob (yS e M) 29 0 := ⟨by decide, (by show 29 < e.1; have := h.1; omega), (congrArg Prod.fst (h.2 (29, 10, 0) (List.mem_of_getElem? (i := 28) rfl) (by decide)) : (e.2.2 29).1 = 10)⟩
theorem cob_30 {e : yE} {M : xM} (h : CSh e) : 0 < 30 ∧ xob (yS e M) 30 1 := ⟨by decide, (by show 30 < e.1; have := h.1; omega), (congrArg Prod.fst (h.2 (30, 11, 0) (List.mem_of_getElem? (i := 29) rfl) (by decide)) : (e.2.2 30).1 = 11)⟩
theorem cob_34 {e : yE} {M : xM} (h : CSh e) : 0 < 34 ∧ xob (yS e M) 34 1 := ⟨by decide, (by show 34 < e.1; have := h.1; omega), (congrArg Prod.fst (h.2 (34, 11, 0) (List.mem_of_getElem? (i := 30) rfl) (by decide)) : (e.2.2 34).1 = 11)⟩
theorem caa_38 {e : yE} (h : CSh e) : yA e 38 1 120 := ⟨by decide, (by have := h.1; omega), h.2 (38, 1, 120) (List.mem_of_getElem? (i := 31) rfl) (by decide), by decide⟩
theorem caa_39 {e : yE} (h : CSh e) : yA e 39 1 2880 := ⟨by decide, (by have := h.1; omega), h.2 (39, 1, 2880) (List.mem_of_getElem? (i := 32) rfl) (by decide), by decide⟩
theorem caa_40 {e : yE} (h : CSh e) : yA e 40 1 120 := ⟨by decide, (by have := h.1; omega), h.2 (40, 1, 120) (List.mem_of_getElem? (i := 33) rfl) (by decide), by decide⟩
theorem caa_41 {e : yE} (h : CSh e) : yA e 41 1 24 := ⟨by decide, (by have := h.1; omega), h.2 (41, 1, 24) (List.mem_of_getElem? (i := 34) rfl) (by decide), by decide⟩
theorem caa_42 {e : yE} (h : CSh e) : yA e 42 1 24 := ⟨by decide, (by have := h.1; omega), h.2 (42, 1, 24) (List.mem_of_getElem? (i := 35) rfl) (by decide), by decide⟩
theorem caa_43 {e : yE} (h : CSh e) : yA e 43 1 3 := ⟨by decide, (by have := h.1; omega), h.2 (43, 1, 3) (List.mem_of_getElem? (i := 36) rfl) (by decide), by decide⟩
theorem caa_44 {e : yE} (h : CSh e) : yA e 44 1 120 := ⟨by decide, (by have := h.1; omega), h.2 (44, 1, 120) (List.mem_of_getElem? (i := 37) rfl) (by decide), by decide⟩
theorem cob_45 {e : yE} {M : xM} (h : CSh e) : 0 < 45 ∧ xob (yS e M) 45 8 := ⟨by decide, (by show 45 < e.1; have := h.1; omega), (congrArg Prod.fst (h.2 (45, 18, 0) (List.mem_of_getElem? (i := 38) rfl) (by decide)) : (e.2.2 45).1 = 18)⟩
theorem caa_46 {e : yE} (h : CSh e) : yA e 46 1 16 := ⟨by decide, (by have := h.1; omega), h.2 (46, 1, 16) (List.mem_of_getElem? (i := 39) rfl) (by decide), by decide⟩
theorem caa_47 {e : yE} (h : CSh e) : yA e 47 1 360 := ⟨by decide, (by have := h.1; omega), h.2 (47, 1, 360) (List.mem_of_getElem? (i := 40) rfl) (by decide), by decide⟩
theorem cob_48 {e : yE} {M : xM} (h : CSh e) : 0 < 48 ∧ xob (yS e M) 48 8 := ⟨by decide, (by show 48 < e.1; have := h.1; omega), (congrArg Prod.fst (h.2 (48, 18, 0) (List.mem_of_getElem? (i := 41) rfl) (by decide)) : (e.2.2 48).1 = 18)⟩
theorem caa_49 {e : yE} (h : CSh e) : yA e 49 1 16 := ⟨by decide, (by have := h.1; omega), h.2 (49, 1, 16) (List.mem_of_getElem? (i := 42) rfl) (by decide), by decide⟩
theorem caa_50 {e : yE} (h : CSh e) : yA e 50 1 360 := ⟨by decide, (by have := h.1; omega), h.2 (50, 1, 360) (List.mem_of_getElem? (i := 43) rfl) (by decide), by decide⟩
theorem cob_51 {e : yE} {M : xM} (h : CSh e) : 0 < 51 ∧ xob (yS e M) 51 2 := ⟨by decide, (by show 51 < e.1; have := h.1; omega), (congrArg Prod.fst (h.2 (51, 12, 0) (List.mem_of_getElem? (i := 44) rfl) (by decide)) : (e.2.2 51).1 = 12)⟩
theorem caa_52 {e : yE} (h : CSh e) : yA e 52 1 16 := ⟨by decide, (by have := h.1; omega), h.2 (52, 1, 16) (List.mem_of_getElem? (i := 45) rfl) (by decide), by decide⟩
theorem cob_53 {e : yE} {M : xM} (h : CSh e) : 0 < 53 ∧ xob (yS e M) 53 4 := ⟨by decide, (by show 53 < e.1; have := h.1; omega), (congrArg Prod.fst (h.2 (53, 14, 0) (List.mem_of_getElem? (i := 46) rfl) (by decide)) : (e.2.2 53).1 = 14)⟩
theorem caa_54 {e : yE} (h : CSh e) : yA e 54 1 4000 := ⟨by decide, (by have := h.1; omega), h.2 (54, 1, 4000) (List.mem_of_getElem? (i := 47) rfl) (by decide), by decide⟩
theorem caa_55 {e : yE} (h : CSh e) : yA e 55 1 4000 := ⟨by decide, (by have := h.1; omega), h.2 (55, 1, 4000) (List.mem_of_getElem? (i := 48) rfl) (by decide), by decide⟩
theorem caa_56 {e : yE} (h : CSh e) : yA e 56 1 360 := ⟨by decide, (by have := h.1; omega), h.2 (56, 1, 360) (List.mem_of_getElem? (i := 49) rfl) (by decide), by decide⟩
theorem caa_57 {e : yE} (h : CSh e) : yA e 57 1 160 := ⟨by decide, (by have := h.1; omega), h.2 (57, 1, 160) (List.mem_of_getElem? (i := 50) rfl) (by decide), by decide⟩
theorem caa_58 {e : yE} (h : CSh e) : yA e 58 1 3 := ⟨by decide, (by have := h.1; omega), h.2 (58, 1, 3) (List.mem_of_getElem? (i := 51) rfl) (by decide), by decide⟩
def XSh5 (k : Nat) (e : yE) : Prop := 0 < k ∧ k + 9 < e.1 ∧ e.2.2 k = (15, 0) ∧ e.2.2 (k + 1) = (1, 300) ∧ e.2.2 (k + 2) = (1, 300) ∧ e.2.2 (k + 3) = (1, 300) ∧ e.2.2 (k + 4) = (1, 300) ∧ e.2.2 (k + 5) = (1, 300) ∧ e.2.2 (k + 6) = (1, 900) ∧ e.2.2 (k + 7) = (1, 300) ∧ e.2.2 (k + 8) = (1, 300) ∧ e.2.2 (k + 9) = (2, 300)
theorem ob5 {k : Nat} {e : yE} {M : xM} (h : XSh5 k e) : 0 < k ∧ xob (yS e M) k 5 := ⟨h.1, (by show k < e.1; have := h.2.1; omega), (congrArg Prod.fst (h.2.2.1) : (e.2.2 k).1 = 15)⟩
theorem ob5_lt {k : Nat} {e : yE} (h : XSh5 k e) : k < e.1 := by have := h.2.1; omega
theorem a5_1 {k : Nat} {e : yE} (h : XSh5 k e) : yA e (k + 1) 1 300 := ⟨by omega, (by have := h.2.1; omega), h.2.2.2.1, by decide⟩
theorem a5_2 {k : Nat} {e : yE} (h : XSh5 k e) : yA e (k + 2) 1 300 := ⟨by omega, (by have := h.2.1; omega), h.2.2.2.2.1, by decide⟩
theorem a5_3 {k : Nat} {e : yE} (h : XSh5 k e) : yA e (k + 3) 1 300 := ⟨by omega, (by have := h.2.1; omega), h.2.2.2.2.2.1, by decide⟩
theorem a5_4 {k : Nat} {e : yE} (h : XSh5 k e) : yA e (k + 4) 1 300 := ⟨by omega, (by have := h.2.1; omega), h.2.2.2.2.2.2.1, by decide⟩
theorem a5_5 {k : Nat} {e : yE} (h : XSh5 k e) : yA e (k + 5) 1 300 := ⟨by omega, (by have := h.2.1; omega), h.2.2.2.2.2.2.2.1, by decide⟩
theorem a5_6 {k : Nat} {e : yE} (h : XSh5 k e) : yA e (k + 6) 1 900 := ⟨by omega, (by have := h.2.1; omega), h.2.2.2.2.2.2.2.2.1, by decide⟩
theorem a5_7 {k : Nat} {e : yE} (h : XSh5 k e) : yA e (k + 7) 1 300 := ⟨by omega, (by have := h.2.1; omega), h.2.2.2.2.2.2.2.2.2.1, by decide⟩
theorem a5_8 {k : Nat} {e : yE} (h : XSh5 k e) : yA e (k + 8) 1 300 := ⟨by omega, (by have := h.2.1; omega), h.2.2.2.2.2.2.2.2.2.2.1, by decide⟩
theorem a5_9 {k : Nat} {e : yE} (h : XSh5 k e) : yA e (k + 9) 2 300 := ⟨by omega, (by have := h.2.1; omega), h.2.2.2.2.2.2.2.2.2.2.2, by decide⟩
theorem XSh5.le {k : Nat} {e e1 : yE} (h : XSh5 k e) (hle : yLe e e1) : XSh5 k e1 := by
  have hb := h.2.1
  exact ⟨h.1, Nat.lt_of_lt_of_le h.2.1 hle.1, (by rw [hle.2 _ (by omega)]; exact h.2.2.1), (by rw [hle.2 _ (by omega)]; exact h.2.2.2.1), (by rw [hle.2 _ (by omega)]; exact h.2.2.2.2.1), (by rw [hle.2 _ (by omega)]; exact h.2.2.2.2.2.1), (by rw [hle.2 _ (by omega)]; exact h.2.2.2.2.2.2.1), (by rw [hle.2 _ (by omega)]; exact h.2.2.2.2.2.2.2.1), (by rw [hle.2 _ (by omega)]; exact h.2.2.2.2.2.2.2.2.1), (by rw [hle.2 _ (by omega)]; exact h.2.2.2.2.2.2.2.2.2.1), (by rw [hle.2 _ (by omega)]; exact h.2.2.2.2.2.2.2.2.2.2.1), (by rw [hle.2 _ (by omega)]; exact h.2.2.2.2.2.2.2.2.2.2.2)⟩
theorem c5_8 {e : yE} (h : CSh e) : XSh5 8 e := ⟨by decide, (by have := h.1; omega), h.2 (8, 15, 0) (by decide) (by decide), (caa_9 h).2.2.1, (caa_10 h).2.2.1, (caa_11 h).2.2.1, (caa_12 h).2.2.1, (caa_13 h).2.2.1, (caa_14 h).2.2.1, (caa_15 h).2.2.1, (caa_16 h).2.2.1, (caa_17 h).2.2.1⟩
theorem c5_18 {e : yE} (h : CSh e) : XSh5 18 e := ⟨by decide, (by have := h.1; omega), h.2 (18, 15, 0) (by decide) (by decide), (caa_19 h).2.2.1, (caa_20 h).2.2.1, (caa_21 h).2.2.1, (caa_22 h).2.2.1, (caa_23 h).2.2.1, (caa_24 h).2.2.1, (caa_25 h).2.2.1, (caa_26 h).2.2.1, (caa_27 h).2.2.1⟩
def XSh1 (k : Nat) (e : yE) : Prop := 0 < k ∧ k + 0 < e.1 ∧ e.2.2 k = (11, 0)
theorem ob1 {k : Nat} {e : yE} {M : xM} (h : XSh1 k e) : 0 < k ∧ xob (yS e M) k 1 := ⟨h.1, (by show k < e.1; have := h.2.1; omega), (congrArg Prod.fst h.2.2 : (e.2.2 k).1 = 11)⟩
theorem ob1_lt {k : Nat} {e : yE} (h : XSh1 k e) : k < e.1 := by have := h.2.1; omega
theorem XSh1.le {k : Nat} {e e1 : yE} (h : XSh1 k e) (hle : yLe e e1) : XSh1 k e1 := by
  have hb := h.2.1
  exact ⟨h.1, Nat.lt_of_lt_of_le h.2.1 hle.1, (by rw [hle.2 _ (by omega)]; exact h.2.2)⟩
theorem c1_30 {e : yE} (h : CSh e) : XSh1 30 e := ⟨by decide, (by have := h.1; omega), h.2 (30, 11, 0) (by decide) (by decide)⟩
theorem c1_34 {e : yE} (h : CSh e) : XSh1 34 e := ⟨by decide, (by have := h.1; omega), h.2 (34, 11, 0) (by decide) (by decide)⟩
def XSh8 (k : Nat) (e : yE) : Prop := 0 < k ∧ k + 2 < e.1 ∧ e.2.2 k = (18, 0) ∧ e.2.2 (k + 1) = (1, 16) ∧ e.2.2 (k + 2) = (1, 360)
theorem ob8 {k : Nat} {e : yE} {M : xM} (h : XSh8 k e) : 0 < k ∧ xob (yS e M) k 8 := ⟨h.1, (by show k < e.1; have := h.2.1; omega), (congrArg Prod.fst (h.2.2.1) : (e.2.2 k).1 = 18)⟩
theorem ob8_lt {k : Nat} {e : yE} (h : XSh8 k e) : k < e.1 := by have := h.2.1; omega
theorem a8_1 {k : Nat} {e : yE} (h : XSh8 k e) : yA e (k + 1) 1 16 := ⟨by omega, (by have := h.2.1; omega), h.2.2.2.1, by decide⟩
theorem a8_2 {k : Nat} {e : yE} (h : XSh8 k e) : yA e (k + 2) 1 360 := ⟨by omega, (by have := h.2.1; omega), h.2.2.2.2, by decide⟩
theorem XSh8.le {k : Nat} {e e1 : yE} (h : XSh8 k e) (hle : yLe e e1) : XSh8 k e1 := by
  have hb := h.2.1
  exact ⟨h.1, Nat.lt_of_lt_of_le h.2.1 hle.1, (by rw [hle.2 _ (by omega)]; exact h.2.2.1), (by rw [hle.2 _ (by omega)]; exact h.2.2.2.1), (by rw [hle.2 _ (by omega)]; exact h.2.2.2.2)⟩
theorem c8_45 {e : yE} (h : CSh e) : XSh8 45 e := ⟨by decide, (by have := h.1; omega), h.2 (45, 18, 0) (by decide) (by decide), (caa_46 h).2.2.1, (caa_47 h).2.2.1⟩
theorem c8_48 {e : yE} (h : CSh e) : XSh8 48 e := ⟨by decide, (by have := h.1; omega), h.2 (48, 18, 0) (by decide) (by decide), (caa_49 h).2.2.1, (caa_50 h).2.2.1⟩
def XSh6 (k : Nat) (e : yE) : Prop := 0 < k ∧ k + 12 < e.1 ∧ e.2.2 k = (16, 0) ∧ e.2.2 (k + 1) = (1, 4) ∧ e.2.2 (k + 2) = (1, 360) ∧ e.2.2 (k + 3) = (1, 120) ∧ e.2.2 (k + 4) = (1, 120) ∧ e.2.2 (k + 5) = (1, 120) ∧ e.2.2 (k + 6) = (1, 120) ∧ e.2.2 (k + 7) = (1, 120) ∧ e.2.2 (k + 8) = (1, 120) ∧ e.2.2 (k + 9) = (1, 120) ∧ e.2.2 (k + 10) = (2, 120) ∧ e.2.2 (k + 11) = (1, 120) ∧ e.2.2 (k + 12) = (1, 1920)
theorem ob6 {k : Nat} {e : yE} {M : xM} (h : XSh6 k e) : 0 < k ∧ xob (yS e M) k 6 := ⟨h.1, (by show k < e.1; have := h.2.1; omega), (congrArg Prod.fst (h.2.2.1) : (e.2.2 k).1 = 16)⟩
theorem ob6_lt {k : Nat} {e : yE} (h : XSh6 k e) : k < e.1 := by have := h.2.1; omega
theorem a6_1 {k : Nat} {e : yE} (h : XSh6 k e) : yA e (k + 1) 1 4 := ⟨by omega, (by have := h.2.1; omega), h.2.2.2.1, by decide⟩
theorem a6_2 {k : Nat} {e : yE} (h : XSh6 k e) : yA e (k + 2) 1 360 := ⟨by omega, (by have := h.2.1; omega), h.2.2.2.2.1, by decide⟩
theorem a6_3 {k : Nat} {e : yE} (h : XSh6 k e) : yA e (k + 3) 1 120 := ⟨by omega, (by have := h.2.1; omega), h.2.2.2.2.2.1, by decide⟩
theorem a6_4 {k : Nat} {e : yE} (h : XSh6 k e) : yA e (k + 4) 1 120 := ⟨by omega, (by have := h.2.1; omega), h.2.2.2.2.2.2.1, by decide⟩
theorem a6_5 {k : Nat} {e : yE} (h : XSh6 k e) : yA e (k + 5) 1 120 := ⟨by omega, (by have := h.2.1; omega), h.2.2.2.2.2.2.2.1, by decide⟩
theorem a6_6 {k : Nat} {e : yE} (h : XSh6 k e) : yA e (k + 6) 1 120 := ⟨by omega, (by have := h.2.1; omega), h.2.2.2.2.2.2.2.2.1, by decide⟩
theorem a6_7 {k : Nat} {e : yE} (h : XSh6 k e) : yA e (k + 7) 1 120 := ⟨by omega, (by have := h.2.1; omega), h.2.2.2.2.2.2.2.2.2.1, by decide⟩
theorem a6_8 {k : Nat} {e : yE} (h : XSh6 k e) : yA e (k + 8) 1 120 := ⟨by omega, (by have := h.2.1; omega), h.2.2.2.2.2.2.2.2.2.2.1, by decide⟩
theorem a6_9 {k : Nat} {e : yE} (h : XSh6 k e) : yA e (k + 9) 1 120 := ⟨by omega, (by have := h.2.1; omega), h.2.2.2.2.2.2.2.2.2.2.2.1, by decide⟩
theorem a6_10 {k : Nat} {e : yE} (h : XSh6 k e) : yA e (k + 10) 2 120 := ⟨by omega, (by have := h.2.1; omega), h.2.2.2.2.2.2.2.2.2.2.2.2.1, by decide⟩
theorem a6_11 {k : Nat} {e : yE} (h : XSh6 k e) : yA e (k + 11) 1 120 := ⟨by omega, (by have := h.2.1; omega), h.2.2.2.2.2.2.2.2.2.2.2.2.2.1, by decide⟩
theorem a6_12 {k : Nat} {e : yE} (h : XSh6 k e) : yA e (k + 12) 1 1920 := ⟨by omega, (by have := h.2.1; omega), h.2.2.2.2.2.2.2.2.2.2.2.2.2.2, by decide⟩
theorem XSh6.le {k : Nat} {e e1 : yE} (h : XSh6 k e) (hle : yLe e e1) : XSh6 k e1 := by
  have hb := h.2.1
  exact ⟨h.1, Nat.lt_of_lt_of_le h.2.1 hle.1, (by rw [hle.2 _ (by omega)]; exact h.2.2.1), (by rw [hle.2 _ (by omega)]; exact h.2.2.2.1), (by rw [hle.2 _ (by omega)]; exact h.2.2.2.2.1), (by rw [hle.2 _ (by omega)]; exact h.2.2.2.2.2.1), (by rw [hle.2 _ (by omega)]; exact h.2.2.2.2.2.2.1), (by rw [hle.2 _ (by omega)]; exact h.2.2.2.2.2.2.2.1), (by rw [hle.2 _ (by omega)]; exact h.2.2.2.2.2.2.2.2.1), (by rw [hle.2 _ (by omega)]; exact h.2.2.2.2.2.2.2.2.2.1), (by rw [hle.2 _ (by omega)]; exact h.2.2.2.2.2.2.2.2.2.2.1), (by rw [hle.2 _ (by omega)]; exact h.2.2.2.2.2.2.2.2.2.2.2.1), (by rw [hle.2 _ (by omega)]; exact h.2.2.2.2.2.2.2.2.2.2.2.2.1), (by rw [hle.2 _ (by omega)]; exact h.2.2.2.2.2.2.2.2.2.2.2.2.2.1), (by rw [hle.2 _ (by omega)]; exact h.2.2.2.2.2.2.2.2.2.2.2.2.2.2)⟩
def XSh3 (k : Nat) (e : yE) : Prop := 0 < k ∧ k + 17 < e.1 ∧ e.2.2 k = (13, 0) ∧ e.2.2 (k + 1) = (1, 3) ∧ e.2.2 (k + 2) = (1, 36) ∧ e.2.2 (k + 3) = (1, 12) ∧ e.2.2 (k + 4) = (1, 12) ∧ XSh6 (k + 5) e
theorem ob3 {k : Nat} {e : yE} {M : xM} (h : XSh3 k e) : 0 < k ∧ xob (yS e M) k 3 := ⟨h.1, (by show k < e.1; have := h.2.1; omega), (congrArg Prod.fst (h.2.2.1) : (e.2.2 k).1 = 13)⟩
theorem ob3_lt {k : Nat} {e : yE} (h : XSh3 k e) : k < e.1 := by have := h.2.1; omega
theorem a3_1 {k : Nat} {e : yE} (h : XSh3 k e) : yA e (k + 1) 1 3 := ⟨by omega, (by have := h.2.1; omega), h.2.2.2.1, by decide⟩
theorem a3_2 {k : Nat} {e : yE} (h : XSh3 k e) : yA e (k + 2) 1 36 := ⟨by omega, (by have := h.2.1; omega), h.2.2.2.2.1, by decide⟩
theorem a3_3 {k : Nat} {e : yE} (h : XSh3 k e) : yA e (k + 3) 1 12 := ⟨by omega, (by have := h.2.1; omega), h.2.2.2.2.2.1, by decide⟩
theorem a3_4 {k : Nat} {e : yE} (h : XSh3 k e) : yA e (k + 4) 1 12 := ⟨by omega, (by have := h.2.1; omega), h.2.2.2.2.2.2.1, by decide⟩
theorem t3 {k : Nat} {e : yE} (h : XSh3 k e) : XSh6 (k + 5) e := h.2.2.2.2.2.2.2
theorem XSh3.le {k : Nat} {e e1 : yE} (h : XSh3 k e) (hle : yLe e e1) : XSh3 k e1 := by
  have hb := h.2.1
  exact ⟨h.1, Nat.lt_of_lt_of_le h.2.1 hle.1, (by rw [hle.2 _ (by omega)]; exact h.2.2.1), (by rw [hle.2 _ (by omega)]; exact h.2.2.2.1), (by rw [hle.2 _ (by omega)]; exact h.2.2.2.2.1), (by rw [hle.2 _ (by omega)]; exact h.2.2.2.2.2.1), (by rw [hle.2 _ (by omega)]; exact h.2.2.2.2.2.2.1), (t3 h).le hle⟩
