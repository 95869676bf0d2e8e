/-! ===== laid by dec.py: the reference's state and the texts of its methods ===== -/
abbrev yE : Type := Nat × Nat × (Nat → Nat × Nat)
abbrev yS (e : yE) (M : xM) : xS := (e.1, e.2.1, e.2.2, M)
def yI (e : yE) (Q : Int → xM → Prop) : xV → xS → Prop := fun r S => ∃ x M, r = .inl x ∧ S = yS e M ∧ Q x M
def yV (e : yE) (Q : xM → Prop) : xV → xS → Prop := fun _ S => ∃ M, S = yS e M ∧ Q M
theorem yI_ret {e : yE} {Q : Int → xM → Prop} {x : Int} {M : xM} (h : Q x M) : yI e Q (.inl x) (yS e M) := ⟨x, M, rfl, rfl, h⟩
theorem yV_ret {e : yE} {Q : xM → Prop} {r : xV} {M : xM} (h : Q M) : yV e Q r (yS e M) := ⟨M, rfl, h⟩
theorem yI_use {e : yE} {d mu : Nat} {as : List xV} {M : xM} {K : Int → xM → Prop} {P : xV → xS → Prop} (h : xcall xft xNf xmt xtr d mu as (yS e M) (yI e K)) (hP : ∀ x M', K x M' → P (.inl x) (yS e M')) : xcall xft xNf xmt xtr d mu as (yS e M) P :=
  xcall_mono d d mu as _ _ _ (Nat.le_refl _) (fun r S' q => by obtain ⟨x, M', rfl, rfl, hk⟩ := q; exact hP x M' hk) h
theorem yV_use {e : yE} {d mu : Nat} {as : List xV} {M : xM} {K : xM → Prop} {P : xV → xS → Prop} (h : xcall xft xNf xmt xtr d mu as (yS e M) (yV e K)) (hP : ∀ r M', K M' → P r (yS e M')) : xcall xft xNf xmt xtr d mu as (yS e M) P :=
  xcall_mono d d mu as _ _ _ (Nat.le_refl _) (fun r S' q => by obtain ⟨M', rfl, hk⟩ := q; exact hP r M' hk) h
theorem xgo_st {T : Nat → Nat → Nat × Nat} {N : Nat → Nat} {mt : xMt} {C : Nat → List xV → xS → (xV → xS → Prop) → Prop} {K : Nat → xL → List xV → xS → Prop} {Q : xV → xS → Prop} {L : List xI} {ls : xL} {st : List xV} {S : xS} {e : yE} {M : xM} (hS : S = yS e M) (h : xgo T N mt C K Q L 0 ls st (yS e M)) : xgo T N mt C K Q L 0 ls st S := hS ▸ h
theorem rg_lit {x : Int} (h : -2147483648 ≤ x ∧ x ≤ 2147483647) : rg x := h
def yAr (e : yE) (a n : Nat) : Prop := 0 < a ∧ a < e.1 ∧ e.2.2 a = (1, n) ∧ n ≤ 2147483647
/-- an array of the kind t and of n places -/
def yA (e : yE) (a t n : Nat) : Prop := 0 < a ∧ a < e.1 ∧ e.2.2 a = (t, n) ∧ n ≤ 2147483647
theorem xi_ldb {e : yE} {M : xM} {a t n : Nat} {i : Int} (h : yA e a t n) (hi : 0 ≤ i ∧ i < (n : Int)) : 0 < a ∧ xin (yS e M) a t i :=
  ⟨h.1, h.2.1, (congrArg Prod.fst h.2.2.1 : (e.2.2 a).1 = t), hi.1, (by show i < (((e.2.2 a).2 : Nat) : Int); rw [h.2.2.1]; exact hi.2), (by have := h.2.2.2; have := hi.2; omega)⟩
theorem xi_st {e : yE} {M : xM} {a t n : Nat} {i : Int} (h : yA e a t n) (hi : 0 ≤ i ∧ i < (n : Int)) : 0 < a ∧ xin (yS e M) a t i := xi_ldb h hi
theorem xi_stv {e : yE} {M : xM} {a t n : Nat} {i : Int} {p : Prop} (h : yA e a t n) (hi : 0 ≤ i ∧ i < (n : Int)) (hp : p) : 0 < a ∧ xin (yS e M) a t i ∧ p := ⟨h.1, (xi_ldb h hi).2, hp⟩
theorem xi_ld {e : yE} {M : xM} {a n : Nat} {i : Int} (h : yA e a 1 n) (hi : 0 ≤ i ∧ i < (n : Int)) : xin (yS e M) a (if a = 0 then 5 else 1) i := by
  rw [if_neg (Nat.ne_of_gt h.1)]; exact (xi_ldb h hi).2
/-- the reference's cells: the object at k, its arrays behind it -/
def RShT : List (Nat × Nat) := [(1, 8), (1, 48), (1, 144), (1, 8), (1, 300), (1, 300), (1, 900), (1, 300), (1, 300), (1, 300), (1, 300), (1, 900), (1, 300), (1, 300), (2, 300), (1, 20), (1, 60), (1, 20), (1, 720), (1, 240), (1, 240), (1, 18), (1, 16), (1, 8000), (1, 8000), (1, 128000), (3, 2300000), (1, 100000), (1, 1000), (2, 1000), (1, 1000), (2, 1000), (1, 1000), (1, 1000), (1, 5), (1, 4001), (2, 20), (2, 20), (1, 100), (1, 4000)]
def RSh (e : yE) : Prop := 99 < e.1 ∧ e.2.2 59 = (20, 0) ∧ ∀ (i : Nat) (q : Nat × Nat), RShT[i]? = some q → e.2.2 (i + 60) = q
theorem rs_ob {e : yE} {M : xM} (h : RSh e) : 0 < 59 ∧ xob (yS e M) 59 10 := ⟨by decide, (by show 59 < e.1; have := h.1; omega), (congrArg Prod.fst h.2.1 : (e.2.2 59).1 = 20)⟩
theorem rs_obv {e : yE} {M : xM} {p : Prop} (h : RSh e) (hp : p) : 0 < 59 ∧ xob (yS e M) 59 10 ∧ p := ⟨by decide, (rs_ob (M := M) h).2, hp⟩
theorem rs_1 {e : yE} (h : RSh e) : yA e 60 1 8 := ⟨by decide, (by have := h.1; omega), h.2.2 0 _ rfl, by decide⟩
theorem rs_2 {e : yE} (h : RSh e) : yA e 61 1 48 := ⟨by decide, (by have := h.1; omega), h.2.2 1 _ rfl, by decide⟩
theorem rs_3 {e : yE} (h : RSh e) : yA e 62 1 144 := ⟨by decide, (by have := h.1; omega), h.2.2 2 _ rfl, by decide⟩
theorem rs_4 {e : yE} (h : RSh e) : yA e 63 1 8 := ⟨by decide, (by have := h.1; omega), h.2.2 3 _ rfl, by decide⟩
theorem rs_5 {e : yE} (h : RSh e) : yA e 64 1 300 := ⟨by decide, (by have := h.1; omega), h.2.2 4 _ rfl, by decide⟩
theorem rs_6 {e : yE} (h : RSh e) : yA e 65 1 300 := ⟨by decide, (by have := h.1; omega), h.2.2 5 _ rfl, by decide⟩
theorem rs_7 {e : yE} (h : RSh e) : yA e 66 1 900 := ⟨by decide, (by have := h.1; omega), h.2.2 6 _ rfl, by decide⟩
theorem rs_8 {e : yE} (h : RSh e) : yA e 67 1 300 := ⟨by decide, (by have := h.1; omega), h.2.2 7 _ rfl, by decide⟩
theorem rs_9 {e : yE} (h : RSh e) : yA e 68 1 300 := ⟨by decide, (by have := h.1; omega), h.2.2 8 _ rfl, by decide⟩
theorem rs_10 {e : yE} (h : RSh e) : yA e 69 1 300 := ⟨by decide, (by have := h.1; omega), h.2.2 9 _ rfl, by decide⟩
theorem rs_11 {e : yE} (h : RSh e) : yA e 70 1 300 := ⟨by decide, (by have := h.1; omega), h.2.2 10 _ rfl, by decide⟩
theorem rs_12 {e : yE} (h : RSh e) : yA e 71 1 900 := ⟨by decide, (by have := h.1; omega), h.2.2 11 _ rfl, by decide⟩
theorem rs_13 {e : yE} (h : RSh e) : yA e 72 1 300 := ⟨by decide, (by have := h.1; omega), h.2.2 12 _ rfl, by decide⟩
theorem rs_14 {e : yE} (h : RSh e) : yA e 73 1 300 := ⟨by decide, (by have := h.1; omega), h.2.2 13 _ rfl, by decide⟩
theorem rs_15 {e : yE} (h : RSh e) : yA e 74 2 300 := ⟨by decide, (by have := h.1; omega), h.2.2 14 _ rfl, by decide⟩
theorem rs_16 {e : yE} (h : RSh e) : yA e 75 1 20 := ⟨by decide, (by have := h.1; omega), h.2.2 15 _ rfl, by decide⟩
theorem rs_17 {e : yE} (h : RSh e) : yA e 76 1 60 := ⟨by decide, (by have := h.1; omega), h.2.2 16 _ rfl, by decide⟩
theorem rs_18 {e : yE} (h : RSh e) : yA e 77 1 20 := ⟨by decide, (by have := h.1; omega), h.2.2 17 _ rfl, by decide⟩
theorem rs_19 {e : yE} (h : RSh e) : yA e 78 1 720 := ⟨by decide, (by have := h.1; omega), h.2.2 18 _ rfl, by decide⟩
theorem rs_20 {e : yE} (h : RSh e) : yA e 79 1 240 := ⟨by decide, (by have := h.1; omega), h.2.2 19 _ rfl, by decide⟩
theorem rs_21 {e : yE} (h : RSh e) : yA e 80 1 240 := ⟨by decide, (by have := h.1; omega), h.2.2 20 _ rfl, by decide⟩
theorem rs_22 {e : yE} (h : RSh e) : yA e 81 1 18 := ⟨by decide, (by have := h.1; omega), h.2.2 21 _ rfl, by decide⟩
theorem rs_23 {e : yE} (h : RSh e) : yA e 82 1 16 := ⟨by decide, (by have := h.1; omega), h.2.2 22 _ rfl, by decide⟩
theorem rs_24 {e : yE} (h : RSh e) : yA e 83 1 8000 := ⟨by decide, (by have := h.1; omega), h.2.2 23 _ rfl, by decide⟩
theorem rs_25 {e : yE} (h : RSh e) : yA e 84 1 8000 := ⟨by decide, (by have := h.1; omega), h.2.2 24 _ rfl, by decide⟩
theorem rs_26 {e : yE} (h : RSh e) : yA e 85 1 128000 := ⟨by decide, (by have := h.1; omega), h.2.2 25 _ rfl, by decide⟩
theorem rs_27 {e : yE} (h : RSh e) : yA e 86 3 2300000 := ⟨by decide, (by have := h.1; omega), h.2.2 26 _ rfl, by decide⟩
theorem rs_28 {e : yE} (h : RSh e) : yA e 87 1 100000 := ⟨by decide, (by have := h.1; omega), h.2.2 27 _ rfl, by decide⟩
theorem rs_29 {e : yE} (h : RSh e) : yA e 88 1 1000 := ⟨by decide, (by have := h.1; omega), h.2.2 28 _ rfl, by decide⟩
theorem rs_30 {e : yE} (h : RSh e) : yA e 89 2 1000 := ⟨by decide, (by have := h.1; omega), h.2.2 29 _ rfl, by decide⟩
theorem rs_31 {e : yE} (h : RSh e) : yA e 90 1 1000 := ⟨by decide, (by have := h.1; omega), h.2.2 30 _ rfl, by decide⟩
theorem rs_32 {e : yE} (h : RSh e) : yA e 91 2 1000 := ⟨by decide, (by have := h.1; omega), h.2.2 31 _ rfl, by decide⟩
theorem rs_33 {e : yE} (h : RSh e) : yA e 92 1 1000 := ⟨by decide, (by have := h.1; omega), h.2.2 32 _ rfl, by decide⟩
theorem rs_34 {e : yE} (h : RSh e) : yA e 93 1 1000 := ⟨by decide, (by have := h.1; omega), h.2.2 33 _ rfl, by decide⟩
theorem rs_35 {e : yE} (h : RSh e) : yA e 94 1 5 := ⟨by decide, (by have := h.1; omega), h.2.2 34 _ rfl, by decide⟩
theorem rs_36 {e : yE} (h : RSh e) : yA e 95 1 4001 := ⟨by decide, (by have := h.1; omega), h.2.2 35 _ rfl, by decide⟩
theorem rs_37 {e : yE} (h : RSh e) : yA e 96 2 20 := ⟨by decide, (by have := h.1; omega), h.2.2 36 _ rfl, by decide⟩
theorem rs_38 {e : yE} (h : RSh e) : yA e 97 2 20 := ⟨by decide, (by have := h.1; omega), h.2.2 37 _ rfl, by decide⟩
theorem rs_39 {e : yE} (h : RSh e) : yA e 98 1 100 := ⟨by decide, (by have := h.1; omega), h.2.2 38 _ rfl, by decide⟩
theorem rs_40 {e : yE} (h : RSh e) : yA e 99 1 4000 := ⟨by decide, (by have := h.1; omega), h.2.2 39 _ rfl, by decide⟩
