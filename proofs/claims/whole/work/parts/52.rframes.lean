/-! ===== the reference: what a node leaves, and what it adds up ===== -/
section RFRM
variable {D E : xM} {s w cb lst lh np at_ key m : Int} {col : Int → Int} {oth : Bool}
/-- what stays when a node is gone through -/
def kpN (s cb lh np : Int) (E : xM) (c : Nat) (i : Int) : Prop := ¬ (c = 59 ∧ (i = 31 ∨ i = 33 ∨ i = 35 ∨ i = 42 ∨ i = 45 ∨ i = 46 ∨ i = 48 ∨ i = 50)) ∧ (c = 83 ∨ c = 84 → i < s) ∧ (c = 85 → i < 16 * s) ∧ (c = 86 → i < cb) ∧ (c = 87 → i < lh) ∧ (c = 88 ∨ c = 89 ∨ c = 93 → i < np) ∧ (c = 90 ∨ c = 91 ∨ c = 92 → i < np ∧ E 89 i = 1) ∧ c ≠ 94 ∧ c ≠ 95
/-- but for a place that is being tested -/
def frQ (s cb lh np : Int) (E : xM) (q : Int) (M M' : xM) : Prop := ∀ c i, kpN s cb lh np E c i → (c = 89 → i ≠ q) → M' c i = M c i
def frN (s cb lh np : Int) (E : xM) (M M' : xM) : Prop := ∀ c i, kpN s cb lh np E c i → M' c i = M c i
theorem frN_stt {M M' : xM} (h : frN s cb lh np E M M') (h2 : stt D M) : stt D M' := by
  intro c i hc
  rw [h c i ⟨by omega, by omega, by omega, by omega, by omega, by omega, by omega, by omega, by omega⟩]
  exact h2 c i hc
theorem frQ_stt {M M' : xM} {q : Int} (h : frQ s cb lh np E q M M') (h2 : stt D M) : stt D M' := by
  intro c i hc
  rw [h c i ⟨by omega, by omega, by omega, by omega, by omega, by omega, by omega, by omega, by omega⟩ (by omega)]
  exact h2 c i hc
theorem kpN_mono {s' cb' lh' np' : Int} {E' : xM} {c : Nat} {i : Int} (h : kpN s cb lh np E c i) (h1 : s ≤ s') (h2 : cb ≤ cb') (h3 : lh ≤ lh') (h4 : np ≤ np') (hE : E 89 i = 1 → i < np → E' 89 i = 1) : kpN s' cb' lh' np' E' c i := by
  obtain ⟨a, b, c1, d, e, f, g, x, y⟩ := h
  exact ⟨a, fun z => by have := b z; omega, fun z => by have := c1 z; omega, fun z => by have := d z; omega, fun z => by have := e z; omega, fun z => by have := f z; omega, fun z => ⟨by have := (g z).1; omega, hE (g z).2 (g z).1⟩, x, y⟩
theorem kpN_S {c : Nat} {i : Int} (h : kpN s cb lh np E c i) : kpS s cb c i := by
  obtain ⟨a, b, c1, d, e, f, g, x, y⟩ := h
  exact ⟨by omega, by omega, by omega, by omega, by omega⟩
theorem frS_N {M M' : xM} (h : frS s cb M M') : frN s cb lh np E M M' := fun c i k => h c i (kpN_S k)
theorem frN_trans {M M1 M2 : xM} (h : frN s cb lh np E M M1) (h2 : frN s cb lh np E M1 M2) : frN s cb lh np E M M2 := fun c i k => (h2 c i k).trans (h c i k)
theorem frN_up {M M1 : xM} {c : Nat} {i v : Int} (h : frN s cb lh np E M M1) (hn : ¬ kpN s cb lh np E c i) : frN s cb lh np E M (xup M1 c i v) := by
  intro c' i' k
  rw [xup_ap, if_neg (fun z => hn (by rw [← z.1, ← z.2]; exact k))]
  exact h c' i' k
theorem nk_59 {i : Int} (h : i = 31 ∨ i = 33 ∨ i = 35 ∨ i = 42 ∨ i = 45 ∨ i = 46 ∨ i = 48 ∨ i = 50) : ¬ kpN s cb lh np E 59 i := fun z => z.1 ⟨rfl, h⟩
theorem nk_94 {i : Int} : ¬ kpN s cb lh np E 94 i := fun z => z.2.2.2.2.2.2.2.1 rfl
/-- what nodes add up -/
noncomputable def app (D : xM) (m : Int) (σ : xM) (v : aV) : xM :=
  if v.1 = 3 then (if σ 59 48 = 0 then putL (xup (xup (xup (xup σ 59 46 (σ 59 46 + 1)) 94 3 (σ 94 3 + 1)) 59 48 1) 59 50 0) (flS (tx D v.2.2 400) (D 75 m).toNat 0) else xup (xup σ 59 46 (σ 59 46 + 1)) 94 3 (σ 94 3 + 1))
  else if v.1 = 0 then xup (xup σ 59 46 (σ 59 46 + 1)) 94 0 (σ 94 0 + 1) else xup (xup (xup σ 94 4 (xor32 (σ 94 4) (xshl32 1 v.2.1))) 59 46 (σ 59 46 + 1)) 94 v.1 (σ 94 v.1 + 1)
def acC (c : Nat) (i : Int) : Prop := (c = 94 ∧ 0 ≤ i ∧ i < 5) ∨ (c = 59 ∧ (i = 46 ∨ i = 48 ∨ i = 50)) ∨ c = 95
def agA (σ M : xM) : Prop := ∀ c i, acC c i → M c i = σ c i
theorem putL_ag : ∀ (l : List Int) (σ M : xM), agA σ M → agA (putL σ l) (putL M l) := by
  intro l
  induction l with
  | nil => intro σ M h; exact h
  | cons x l ih =>
    intro σ M h
    refine ih _ _ ?_
    have h50 := h 59 50 (Or.inr (Or.inl ⟨rfl, by omega⟩))
    unfold put1
    rw [h50]
    split
    · intro c i hc
      rw [xup_ap, xup_ap, xup_ap, xup_ap, h c i hc]
    · exact h
/-- adding up counts -/
theorem app_46 {σ : xM} {v : aV} (hv : 0 ≤ v.1 ∧ v.1 ≤ 3) : (app D m σ v) 59 46 = σ 59 46 + 1 := by
  unfold app
  split
  · split
    · rw [putL_ne (by decide) (by omega), xri (by decide), xri (by decide), xrd (by decide), xrs]
    · rw [xrd (by decide), xrs]
  · split
    · rw [xrd (by decide), xrs]
    · rw [xrd (by decide), xrs]
theorem app_48 {σ : xM} {v : aV} (h : σ 59 48 = 0 ∨ σ 59 48 = 1) : (app D m σ v) 59 48 = 0 ∨ (app D m σ v) 59 48 = 1 := by
  unfold app
  split
  · split
    · rw [putL_ne (by decide) (by omega), xri (by decide), xrs]; omega
    · rw [xrd (by decide), xri (by decide)]; exact h
  · split
    · rw [xrd (by decide), xri (by decide)]; exact h
    · rw [xrd (by decide), xri (by decide), xrd (by decide)]; exact h
theorem evt_rg {mm : Int} {rows : List aR} : 0 ≤ (evt D mm E rows at_).1 ∧ (evt D mm E rows at_).1 ≤ 3 := by
  unfold evt
  split
  · split
    · simp
    · split
      · simp
      · simp
  · simp
/-- a branch's places are in order -/
theorem okE_chB (ht : wfT D) (hv : wfV D) (h : okE D np E) {q : Int} (hq : 0 ≤ q ∧ q < np) (hm : m = bMn D (E 88 q) key oth) (hk : okK D (E 88 q) key oth) (hk2 : 0 < E 88 q → 0 ≤ key ∧ key < D 60 (E 88 q)) : okE D (np + m) (bEn D E q np m key oth) := by
  have hmr := bMn_rg ht ⟨(h q hq.1 hq.2).1.1, (h q hq.1 hq.2).1.2.1⟩ hk
  rw [← hm] at hmr
  intro x x0 x1
  by_cases hx : x < np
  · by_cases hxq : x = q
    · subst hxq
      have b88 : bEn D E x np m key oth 88 x = E 88 x := by unfold bEn; rw [if_neg (by omega), if_neg (by omega), if_neg (by omega), if_neg (by omega), if_neg (by omega), if_neg (by omega)]
      have b89 : bEn D E x np m key oth 89 x = 1 := by unfold bEn; rw [if_neg (by omega), if_neg (by omega), if_pos ⟨rfl, rfl⟩]
      have b90 : bEn D E x np m key oth 90 x = key := by unfold bEn; rw [if_neg (by omega), if_neg (by omega), if_neg (by omega), if_pos ⟨rfl, rfl⟩]
      have b91 : bEn D E x np m key oth 91 x = (if oth = true then 1 else 0) := by unfold bEn; rw [if_neg (by omega), if_neg (by omega), if_neg (by omega), if_neg (by omega), if_pos ⟨rfl, rfl⟩]
      have b92 : bEn D E x np m key oth 92 x = np := by unfold bEn; rw [if_neg (by omega), if_neg (by omega), if_neg (by omega), if_neg (by omega), if_neg (by omega), if_pos ⟨rfl, rfl⟩]
      rw [b88, b89, b90, b91, b92]
      refine ⟨(h x x0 hx).1, Or.inr rfl, fun _ => ⟨by split <;> simp, fun z => ⟨hk2 z, fun z2 => ⟨by omega, ?_⟩⟩⟩⟩
      have ho : oth = false := by
        cases oth with
        | false => rfl
        | true => exact absurd z2 (by decide)
      rw [hm]; unfold bMn; rw [if_neg (by rintro (y | y); rw [ho] at y; cases y; omega)]; omega
    · have bE : ∀ c, bEn D E q np m key oth c x = E c x := by
        intro c
        unfold bEn; rw [if_neg (by omega), if_neg (by omega), if_neg (fun z => hxq z.1), if_neg (fun z => hxq z.1), if_neg (fun z => hxq z.1), if_neg (fun z => hxq z.1)]
      rw [bE, bE, bE, bE, bE]
      obtain ⟨a, b, c⟩ := h x x0 hx
      exact ⟨a, b, fun z => ⟨(c z).1, fun y => ⟨((c z).2 y).1, fun v => by have := ((c z).2 y).2 v; omega⟩⟩⟩
  · have b88 : bEn D E q np m key oth 88 x = D 62 (3 * (6 * E 88 q + key) + (x - np)) := by unfold bEn; rw [if_pos ⟨rfl, by omega, by omega⟩]
    have b89 : bEn D E q np m key oth 89 x = 0 := by unfold bEn; rw [if_neg (fun z => absurd z.1 (by decide)), if_pos ⟨rfl, by omega, by omega⟩]
    rw [b88, b89]
    refine ⟨?_, Or.inl rfl, fun z => by omega⟩
    have h1 : x - np < m := by omega
    rw [hm] at h1
    unfold bMn at h1
    by_cases hz : oth = true ∨ E 88 q = 0
    · rw [if_pos hz] at h1; omega
    · rw [if_neg hz] at h1
      have h2 : oth = false := by cases oth <;> simp at hz ⊢
      have := hk h2 (fun z => hz (Or.inr z))
      have hq1 := (h q hq.1 hq.2).1
      have hh := (ht.2.2.2 _ key hq1.1 hq1.2.1 this.1 this.2).2 (x - np) (by omega) h1
      exact ⟨hh.1, hh.2, hv.2.2 _ key (x - np) hq1.1 hq1.2.1 this.1 this.2 (by omega) h1⟩
theorem bnd_chB {N N' : Int} {rows : Nat} (h : bnd N s w cb lst lh np) (hN : N < N') (hN2 : N' ≤ 120) (hl : rows ≤ 24) (hw : 0 < w) (hm : 0 ≤ m ∧ m ≤ 3) : bnd N' (s + rows) (w - 1 + m) (cb + (rows : Int) * w) lh (lh + (w - 1 + m)) (np + m) := by
  obtain ⟨a, b, c, d, e, f⟩ := h
  have m1 := mul_0 (i := rows) (w := w) (by omega)
  have m2 := mul_le (i := rows) (j := 24) (w := w) hl (by omega)
  have m3 : ((24 : Nat) : Int) * w = 24 * w := rfl
  exact ⟨by omega, by omega, by omega, by omega, by omega, by omega⟩
theorem bnd_leaf {N N' : Int} {rows : Nat} (h : bnd N s w cb lst lh np) (hN : N < N') (hN2 : N' ≤ 120) (hl : rows ≤ 24) : bnd N' (s + rows) w (cb + (rows : Int) * w) lst lh np := by
  obtain ⟨a, b, c, d, e, f⟩ := h
  have m1 := mul_0 (i := rows) (w := w) (by omega)
  have m2 := mul_le (i := rows) (j := 24) (w := w) hl (by omega)
  have m3 : ((24 : Nat) : Int) * w = 24 * w := rfl
  exact ⟨by omega, by omega, by omega, by omega, by omega, by omega⟩
/-- how nodes end: too large, or with their events -/
def altL (D : xM) (m : Int) (n : Nat) (C : List aN) (σ M' : xM) : Prop :=
  (M' 59 45 = 1 ∧ ∀ rest, fin_ D m n (C ++ rest) = none) ∨ (M' 59 45 = 0 ∧ ∃ evs : List aV, evs.length ≤ n ∧ agA (evs.foldl (app D m) σ) M' ∧ (evs.foldl (app D m) σ) 59 46 = σ 59 46 + evs.length ∧ ((evs.foldl (app D m) σ) 59 48 = 0 ∨ (evs.foldl (app D m) σ) 59 48 = 1) ∧ ∀ rest, fin_ D m n (C ++ rest) = (fin_ D m (n - evs.length) rest).map (fun l => evs ++ l))
theorem altL_45 {mm : Int} {n : Nat} {C : List aN} {σ M : xM} (h : altL D mm n C σ M) : M 59 45 = 0 ∨ M 59 45 = 1 := by
  rcases h with h | h
  · exact Or.inr h.1
  · exact Or.inl h.1
theorem altL_nil {mm : Int} {n : Nat} {σ M : xM} (h : M 59 45 = 0) (ha : agA σ M) (h48 : σ 59 48 = 0 ∨ σ 59 48 = 1) : altL D mm n [] σ M :=
  Or.inr ⟨h, [], Nat.zero_le _, ha, by simp, h48, fun rest => by simp⟩
/-- one that is too large makes all too large -/
theorem altL_over {mm : Int} {n : Nat} {C C' : List aN} {σ M M' : xM} (h : altL D mm n C σ M) (h1 : M 59 45 = 1) (h2 : M' 59 45 = 1) : altL D mm n (C ++ C') σ M' := by
  rcases h with h | h
  · exact Or.inl ⟨h2, fun rest => by rw [List.append_assoc]; exact h.2 _⟩
  · rw [h.1] at h1; omega
theorem altL_snoc {mm : Int} {n : Nat} {C : List aN} {c : aN} {σ M' : xM} {evs : List aV} (hl : evs.length ≤ n) (h46 : (evs.foldl (app D mm) σ) 59 46 = σ 59 46 + evs.length) (he : ∀ rest, fin_ D mm n (C ++ rest) = (fin_ D mm (n - evs.length) rest).map (fun l => evs ++ l)) (h : altL D mm (n - evs.length) [c] (evs.foldl (app D mm) σ) M') : altL D mm n (C ++ [c]) σ M' := by
  rcases h with h | ⟨h1, ev2, h2, h3, h4, h5, h6⟩
  · refine Or.inl ⟨h.1, fun rest => ?_⟩
    rw [List.append_assoc, he, h.2]; rfl
  · refine Or.inr ⟨h1, evs ++ ev2, by rw [List.length_append]; omega, by rw [List.foldl_append]; exact h3, by rw [List.foldl_append, h4, h46, List.length_append]; omega, by rw [List.foldl_append]; exact h5, fun rest => ?_⟩
    rw [List.append_assoc, he, h6, Option.map_map, List.length_append, Nat.sub_add_eq]
    congr 1
    funext l
    simp
theorem altL_node {mm w np : Int} {n : Nat} {col : Int → Int} {rows rows' : List aR} {σ M' : xM} (hs : shp D w col rows = some (rows', at_)) (h : altL D mm n (chd D mm w col np E rows' at_) (app D mm σ (evt D mm E rows' at_)) M') : altL D mm (n + 1) [(w, col, np, E, rows)] σ M' := by
  rcases h with h | ⟨h1, ev2, h2, h3, h4, h5, h6⟩
  · refine Or.inl ⟨h.1, fun rest => ?_⟩
    rw [List.singleton_append, fin_some hs, h.2]; rfl
  · refine Or.inr ⟨h1, evt D mm E rows' at_ :: ev2, by rw [List.length_cons]; omega, h3, by rw [List.foldl_cons, h4, app_46 evt_rg, List.length_cons]; omega, h5, fun rest => ?_⟩
    rw [List.singleton_append, fin_some hs, h6, Option.map_map, List.length_cons, Nat.add_sub_add_right]
    rfl
def nkS (h : Int) (a : Option Int) : Option Int := match a with | none => some h | some k => if h < k then some h else some k
/-- the next head behind the last one -/
def nk (D : xM) (at_ : Int) (L : Int → Prop) [DecidablePred L] : List aR → Option Int → Option Int
  | [], a => a
  | r :: rs, a => nk D at_ L rs (if 0 ≤ r.2.1 at_ ∧ L (D 70 (r.2.1 at_)) then nkS (D 70 (r.2.1 at_)) a else a)
theorem nk_is {L : Int → Prop} [DecidablePred L] : ∀ (rs : List aR) (a : Option Int), (nk D at_ L rs a = none → a = none ∧ ∀ r ∈ rs, ¬ (0 ≤ r.2.1 at_ ∧ L (D 70 (r.2.1 at_)))) ∧ (∀ k, nk D at_ L rs a = some k → (a = some k ∨ ∃ r ∈ rs, 0 ≤ r.2.1 at_ ∧ L (D 70 (r.2.1 at_)) ∧ D 70 (r.2.1 at_) = k) ∧ (∀ k', a = some k' → k ≤ k') ∧ ∀ r ∈ rs, 0 ≤ r.2.1 at_ → L (D 70 (r.2.1 at_)) → k ≤ D 70 (r.2.1 at_)) := by
  intro rs
  induction rs with
  | nil => intro a; exact ⟨fun h => ⟨h, fun r hr => by cases hr⟩, fun k h => ⟨Or.inl h, fun k' h' => by have : nk D at_ L [] a = a := rfl; rw [this, h'] at h; have := Option.some.inj h; omega, fun r hr => by cases hr⟩⟩
  | cons r rs ih =>
    intro a
    unfold nk
    by_cases c : 0 ≤ r.2.1 at_ ∧ L (D 70 (r.2.1 at_))
    · rw [if_pos c]
      cases a with
      | none =>
        obtain ⟨i1, i2⟩ := ih (some (D 70 (r.2.1 at_)))
        refine ⟨fun h => absurd (i1 h).1 (by simp), fun k h => ?_⟩
        obtain ⟨j1, j2, j3⟩ := i2 k h
        refine ⟨?_, (fun k' h' => by cases h'), fun r' hr' h1 h2 => ?_⟩
        · rcases j1 with j1 | ⟨r', h1, h2⟩
          · exact Or.inr ⟨r, by simp, c.1, c.2, Option.some.inj j1⟩
          · exact Or.inr ⟨r', by simp [h1], h2⟩
        · rcases List.mem_cons.mp hr' with h3 | h3
          · subst h3; exact j2 _ rfl
          · exact j3 r' h3 h1 h2
      | some k0 =>
        by_cases c2 : D 70 (r.2.1 at_) < k0
        · have e5 : nkS (D 70 (r.2.1 at_)) (some k0) = some (D 70 (r.2.1 at_)) := by show (if D 70 (r.2.1 at_) < k0 then _ else _) = _; rw [if_pos c2]
          rw [e5]
          obtain ⟨i1, i2⟩ := ih (some (D 70 (r.2.1 at_)))
          refine ⟨fun h => absurd (i1 h).1 (by simp), fun k h => ?_⟩
          obtain ⟨j1, j2, j3⟩ := i2 k h
          refine ⟨?_, (fun k' h' => ?_), fun r' hr' h1 h2 => ?_⟩
          · rcases j1 with j1 | ⟨r', h1, h2⟩
            · exact Or.inr ⟨r, by simp, c.1, c.2, Option.some.inj j1⟩
            · exact Or.inr ⟨r', by simp [h1], h2⟩
          · have := Option.some.inj h'
            have := j2 _ rfl
            omega
          · rcases List.mem_cons.mp hr' with h3 | h3
            · subst h3; exact j2 _ rfl
            · exact j3 r' h3 h1 h2
        · have e5 : nkS (D 70 (r.2.1 at_)) (some k0) = some k0 := by show (if D 70 (r.2.1 at_) < k0 then _ else _) = _; rw [if_neg c2]
          rw [e5]
          obtain ⟨i1, i2⟩ := ih (some k0)
          refine ⟨fun h => absurd (i1 h).1 (by simp), fun k h => ?_⟩
          obtain ⟨j1, j2, j3⟩ := i2 k h
          refine ⟨?_, j2, fun r' hr' h1 h2 => ?_⟩
          · rcases j1 with j1 | ⟨r', h1, h2⟩
            · exact Or.inl j1
            · exact Or.inr ⟨r', by simp [h1], h2⟩
          · rcases List.mem_cons.mp hr' with h3 | h3
            · subst h3; have := j2 _ rfl; omega
            · exact j3 r' h3 h1 h2
    · rw [if_neg c]
      obtain ⟨i1, i2⟩ := ih a
      refine ⟨fun h => ⟨(i1 h).1, fun r' hr' => ?_⟩, fun k h => ?_⟩
      · rcases List.mem_cons.mp hr' with h3 | h3
        · subst h3; exact c
        · exact (i1 h).2 r' h3
      · obtain ⟨j1, j2, j3⟩ := i2 k h
        refine ⟨?_, j2, fun r' hr' h1 h2 => ?_⟩
        · rcases j1 with j1 | ⟨r', h1, h2⟩
          · exact Or.inl j1
          · exact Or.inr ⟨r', by simp [h1], h2⟩
        · rcases List.mem_cons.mp hr' with h3 | h3
          · subst h3; exact absurd ⟨h1, h2⟩ c
          · exact j3 r' h3 h1 h2
/-- the heads in order are met one after the other -/
theorem nk_kys {L : Int → Prop} [DecidablePred L] {rows : List aR} {dn rm : List Int} (hk : kys D at_ rows [] = dn ++ rm) (hL : ∀ h, h ∈ dn → ¬ L h) (hL2 : ∀ h, h ∈ rm → L h) : nk D at_ L rows none = rm.head? := by
  have hmem : ∀ y, y ∈ dn ++ rm ↔ ∃ r ∈ rows, 0 ≤ r.2.1 at_ ∧ D 70 (r.2.1 at_) = y := by
    intro y; rw [← hk, kys_mem]; simp
  have hord : (dn ++ rm).Pairwise (· < ·) := by rw [← hk]; exact kys_ord rows [] List.Pairwise.nil
  obtain ⟨i1, i2⟩ := nk_is (D := D) (at_ := at_) (L := L) rows none
  cases hn : nk D at_ L rows none with
  | none =>
    cases rm with
    | nil => rfl
    | cons k rm =>
      obtain ⟨r, h1, h2, h3⟩ := (hmem k).mp (by simp)
      exact absurd ⟨h2, by rw [h3]; exact hL2 k (by simp)⟩ ((i1 hn).2 r h1)
  | some k =>
    obtain ⟨j1, -, j3⟩ := i2 k hn
    rcases j1 with j1 | ⟨r, h1, h2, h3, h4⟩
    · cases j1
    · have hkm : k ∈ dn ++ rm := (hmem k).mpr ⟨r, h1, h2, h4⟩
      have hkr : k ∈ rm := by
        rcases List.mem_append.mp hkm with h | h
        · exact absurd (by rw [h4] at h3; exact h3) (hL k h)
        · exact h
      cases rm with
      | nil => cases hkr
      | cons k0 rm =>
        obtain ⟨r', h1', h2', h3'⟩ := (hmem k0).mp (by simp)
        have hle := j3 r' h1' h2' (by rw [h3']; exact hL2 k0 (by simp))
        rw [h3'] at hle
        have hord2 := (List.pairwise_append.mp hord).2.1
        rw [List.pairwise_cons] at hord2
        rcases List.mem_cons.mp hkr with h | h
        · rw [h]; rfl
        · have := hord2.1 k h; omega
end RFRM
