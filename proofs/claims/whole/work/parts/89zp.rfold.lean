/-! ===== what the reference gathers of a tree ===== -/
section RFO
variable {D : xM} {m : Int}
theorem evt_k {E : xM} {rows : List aR} {at_ : Int} : (evt D m E rows at_).1 = 0 ∨ (evt D m E rows at_).1 = 1 ∨ (evt D m E rows at_).1 = 2 ∨ (evt D m E rows at_).1 = 3 := by
  unfold evt
  by_cases z : at_ < 0
  · rw [if_pos z]
    cases rows with
    | nil => exact Or.inr (Or.inr (Or.inr rfl))
    | cons r rs =>
      show (if D 79 (12 * m + r.1) < 0 then ((2 : Int), r.1, E) else (1, r.1, E)).1 = 0 ∨ (if D 79 (12 * m + r.1) < 0 then ((2 : Int), r.1, E) else (1, r.1, E)).1 = 1 ∨ (if D 79 (12 * m + r.1) < 0 then ((2 : Int), r.1, E) else (1, r.1, E)).1 = 2 ∨ (if D 79 (12 * m + r.1) < 0 then ((2 : Int), r.1, E) else (1, r.1, E)).1 = 3
      by_cases y : D 79 (12 * m + r.1) < 0
      · rw [if_pos y]; exact Or.inr (Or.inr (Or.inl rfl))
      · rw [if_neg y]; exact Or.inr (Or.inl rfl)
  · rw [if_neg z]; exact Or.inl rfl
theorem fin_k : ∀ (n : Nat) (S : List aN) (evs : List aV), fin_ D m n S = some evs → ∀ v ∈ evs, v.1 = 0 ∨ v.1 = 1 ∨ v.1 = 2 ∨ v.1 = 3 := by
  intro n
  induction n with
  | zero =>
    intro S evs h
    cases S with
    | nil => have := Option.some.inj ((fin_nil (D := D) (m := m) (n := 0)).symm.trans h); subst this; intro v hv; cases hv
    | cons a S => cases h
  | succ n ih =>
    intro S evs h
    cases S with
    | nil => have := Option.some.inj ((fin_nil (D := D) (m := m) (n := n + 1)).symm.trans h); subst this; intro v hv; cases hv
    | cons a S =>
      cases hq : shp D a.1 a.2.1 a.2.2.2.2 with
      | none => rw [show fin_ D m (n + 1) (a :: S) = none from fin_over (np := a.2.2.1) (E := a.2.2.2.1) hq] at h; cases h
      | some q =>
        have e : fin_ D m (n + 1) (a :: S) = _ := fin_some (m := m) (np := a.2.2.1) (E := a.2.2.2.1) (S := S) (n := n) hq
        rw [e] at h
        cases hf : fin_ D m n (chd D m a.1 a.2.1 a.2.2.1 a.2.2.2.1 q.1 q.2 ++ S) with
        | none => rw [hf] at h; cases h
        | some l =>
          rw [hf] at h
          have := Option.some.inj h
          subst this
          intro v hv
          rcases List.mem_cons.mp hv with z | z
          · rw [z]; exact evt_k
          · exact ih _ l hf v z
theorem app_94 {σ : xM} {v : aV} (hv : v.1 = 0 ∨ v.1 = 1 ∨ v.1 = 2 ∨ v.1 = 3) : (∀ k, 0 ≤ k → k < 4 → app D m σ v 94 k = σ 94 k + if v.1 = k then 1 else 0) ∧ app D m σ v 94 4 = (if v.1 = 1 ∨ v.1 = 2 then xor32 (σ 94 4) (xshl32 1 v.2.1) else σ 94 4) := by
  unfold app
  by_cases h3 : v.1 = 3
  · rw [if_pos h3]
    have key : ∀ k, (if σ 59 48 = 0 then putL (xup (xup (xup (xup σ 59 46 (σ 59 46 + 1)) 94 3 (σ 94 3 + 1)) 59 48 1) 59 50 0) (flS (tx D v.2.2 400) (D 75 m).toNat 0) else xup (xup σ 59 46 (σ 59 46 + 1)) 94 3 (σ 94 3 + 1)) 94 k = if k = 3 then σ 94 3 + 1 else σ 94 k := by
      intro k
      have e1 : xup (xup σ 59 46 (σ 59 46 + 1)) 94 3 (σ 94 3 + 1) 94 k = if k = 3 then σ 94 3 + 1 else σ 94 k := by
        by_cases z : k = 3
        · rw [z, xrs, if_pos rfl]
        · rw [xri z, if_neg z, xrd (by decide)]
      by_cases z : σ 59 48 = 0
      · rw [if_pos z, putL_ne (by decide) (by omega), xrd (by decide), xrd (by decide)]; exact e1
      · rw [if_neg z]; exact e1
    refine ⟨fun k k0 k4 => ?_, ?_⟩
    · rw [key, h3]
      by_cases z : k = 3
      · rw [if_pos z, if_pos z.symm, z]
      · rw [if_neg z, if_neg (fun y => z y.symm)]; omega
    · rw [key, if_neg (by decide), if_neg (by omega)]
  · rw [if_neg h3]
    by_cases h0 : v.1 = 0
    · rw [if_pos h0]
      refine ⟨fun k k0 k4 => ?_, ?_⟩
      · rw [h0]
        by_cases z : k = 0
        · rw [z, xrs, if_pos rfl]
        · rw [xri z, if_neg (fun y => z y.symm), xrd (by decide)]; omega
      · rw [xri (by decide), xrd (by decide), if_neg (by omega)]
    · rw [if_neg h0]
      refine ⟨fun k k0 k4 => ?_, ?_⟩
      · by_cases z : k = v.1
        · rw [z, xrs, if_pos rfl]
        · rw [xri z, if_neg (fun y => z y.symm), xrd (by decide), xri (by omega)]; omega
      · rw [xri (by omega), xrd (by decide), xrs, if_pos (by omega)]
theorem fold_94 : ∀ (evs : List aV) (σ : xM), (∀ v ∈ evs, v.1 = 0 ∨ v.1 = 1 ∨ v.1 = 2 ∨ v.1 = 3) → (∀ k, 0 ≤ k → k < 4 → (evs.foldl (app D m) σ) 94 k = σ 94 k + cntK k evs) ∧ (evs.foldl (app D m) σ) 94 4 = ndM (σ 94 4) evs := by
  intro evs
  induction evs with
  | nil => intro σ _; exact ⟨fun k _ _ => by show σ 94 k = σ 94 k + ((0 : Nat) : Int); omega, rfl⟩
  | cons v l ih =>
    intro σ h
    obtain ⟨a1, a2⟩ := app_94 (D := D) (m := m) (σ := σ) (h v (by simp))
    obtain ⟨b1, b2⟩ := ih (app D m σ v) (fun x hx => h x (by simp [hx]))
    refine ⟨fun k k0 k4 => ?_, ?_⟩
    · show (l.foldl (app D m) (app D m σ v)) 94 k = σ 94 k + (((if v.1 = k then 1 else 0) + cntK k l : Nat) : Int)
      rw [b1 k k0 k4, a1 k k0 k4]
      by_cases z : v.1 = k
      · rw [if_pos z, if_pos z]; omega
      · rw [if_neg z, if_neg z]; omega
    · show (l.foldl (app D m) (app D m σ v)) 94 4 = ndM (if v.1 = 1 ∨ v.1 = 2 then xor32 (σ 94 4) (xshl32 1 v.2.1) else σ 94 4) l
      rw [b2, a2]
theorem putL_at : ∀ (l : List Int) (M : xM), 0 ≤ M 59 50 → M 59 50 ≤ 4001 → putL M l 59 50 = (if M 59 50 + l.length ≤ 4001 then M 59 50 + l.length else 4001) ∧ (∀ i, i < M 59 50 → putL M l 95 i = M 95 i) ∧ ∀ (j : Nat) x, l[j]? = some x → M 59 50 + j < 4001 → putL M l 95 (M 59 50 + j) = x := by
  intro l
  induction l with
  | nil =>
    intro M h0 h1
    refine ⟨?_, fun _ _ => rfl, fun j x hj => by cases hj⟩
    show M 59 50 = if M 59 50 + ((0 : Nat) : Int) ≤ 4001 then M 59 50 + ((0 : Nat) : Int) else 4001
    rw [if_pos (by omega)]; omega
  | cons y l ih =>
    intro M h0 h1
    by_cases z : M 59 50 < 4001
    · have e1 : put1 M y 59 50 = M 59 50 + 1 := by unfold put1; rw [if_pos z, xrs]
      have e2 : ∀ i, put1 M y 95 i = if i = M 59 50 then y else M 95 i := by
        intro i
        unfold put1; rw [if_pos z, xrd (by decide)]
        by_cases w : i = M 59 50
        · rw [w, xrs, if_pos rfl]
        · rw [xri w, if_neg w]
      obtain ⟨i1, i2, i3⟩ := ih (put1 M y) (by omega) (by omega)
      rw [e1] at i1 i2 i3
      refine ⟨?_, fun i hi => ?_, fun j x hj hlt => ?_⟩
      · show putL (put1 M y) l 59 50 = if M 59 50 + ((l.length + 1 : Nat) : Int) ≤ 4001 then M 59 50 + ((l.length + 1 : Nat) : Int) else 4001
        rw [i1]
        by_cases w : M 59 50 + 1 + (l.length : Int) ≤ 4001
        · rw [if_pos w, if_pos (by omega)]; omega
        · rw [if_neg w, if_neg (by omega)]
      · show putL (put1 M y) l 95 i = _
        rw [i2 i (by omega), e2, if_neg (by omega)]
      · show putL (put1 M y) l 95 _ = x
        cases j with
        | zero =>
          have : y = x := by simpa using hj
          rw [i2 _ (by omega), e2, if_pos (by omega), this]
        | succ j =>
          have := i3 j x (by simpa using hj) (by omega)
          rw [show M 59 50 + ((j + 1 : Nat) : Int) = M 59 50 + 1 + (j : Int) by omega]; exact this
    · have hf : putL M (y :: l) = M := putL_full _ _ (by omega)
      rw [hf]
      refine ⟨?_, fun _ _ => rfl, fun j x _ hlt => by omega⟩
      rw [List.length_cons, if_neg (by omega)]; omega
theorem app_miss {σ : xM} {v : aV} (h : v.1 ≠ 3 ∨ σ 59 48 ≠ 0) : app D m σ v 59 48 = σ 59 48 ∧ app D m σ v 59 50 = σ 59 50 ∧ app D m σ v 95 = σ 95 := by
  unfold app
  by_cases h3 : v.1 = 3
  · rw [if_pos h3, if_neg (by omega)]
    exact ⟨by rw [xrd (by decide), xri (by decide)], by rw [xrd (by decide), xri (by decide)], by rw [xrd (by decide), xrd (by decide)]⟩
  · rw [if_neg h3]
    by_cases h0 : v.1 = 0
    · rw [if_pos h0]; exact ⟨by rw [xrd (by decide), xri (by decide)], by rw [xrd (by decide), xri (by decide)], by rw [xrd (by decide), xrd (by decide)]⟩
    · rw [if_neg h0]; exact ⟨by rw [xrd (by decide), xri (by decide), xrd (by decide)], by rw [xrd (by decide), xri (by decide), xrd (by decide)], by rw [xrd (by decide), xrd (by decide), xrd (by decide)]⟩
theorem fold_keep : ∀ (evs : List aV) (σ : xM), (cntK 3 evs = 0 ∨ σ 59 48 ≠ 0) → (evs.foldl (app D m) σ) 59 48 = σ 59 48 ∧ (evs.foldl (app D m) σ) 59 50 = σ 59 50 ∧ (evs.foldl (app D m) σ) 95 = σ 95 := by
  intro evs
  induction evs with
  | nil => intro σ _; exact ⟨rfl, rfl, rfl⟩
  | cons v l ih =>
    intro σ h
    have h' : v.1 ≠ 3 ∨ σ 59 48 ≠ 0 := by
      rcases h with h | h
      · left; intro z
        have : (if v.1 = 3 then 1 else 0) + cntK 3 l = 0 := h
        rw [if_pos z] at this; omega
      · exact Or.inr h
    obtain ⟨a1, a2, a3⟩ := app_miss (D := D) (m := m) h'
    obtain ⟨b1, b2, b3⟩ := ih (app D m σ v) (by
      rcases h with h | h
      · left
        have : (if v.1 = 3 then 1 else 0) + cntK 3 l = 0 := h
        omega
      · right; rw [a1]; exact h)
    exact ⟨b1.trans a1, b2.trans a2, b3.trans a3⟩
/-- what is missing -/
theorem fold_miss {σ : xM} {evs pre post : List aV} {v : aV} (he : evs = pre ++ v :: post) (hv : v.1 = 3) (hp : cntK 3 pre = 0) (h48 : σ 59 48 = 0) : (evs.foldl (app D m) σ) 59 50 = (if ((flS (tx D v.2.2 400) (D 75 m).toNat 0).length : Int) ≤ 4001 then ((flS (tx D v.2.2 400) (D 75 m).toNat 0).length : Int) else 4001) ∧ ∀ (j : Nat) x, (flS (tx D v.2.2 400) (D 75 m).toNat 0)[j]? = some x → j < 4001 → (evs.foldl (app D m) σ) 95 j = x := by
  obtain ⟨a1, a2, a3⟩ := fold_keep (D := D) (m := m) pre σ (Or.inl hp)
  obtain ⟨σ1, e1⟩ : ∃ σ1, σ1 = pre.foldl (app D m) σ := ⟨_, rfl⟩
  rw [← e1] at a1 a2 a3
  have es : evs.foldl (app D m) σ = post.foldl (app D m) (app D m σ1 v) := by rw [he, List.foldl_append, ← e1]; rfl
  have ea : app D m σ1 v = putL (xup (xup (xup (xup σ1 59 46 (σ1 59 46 + 1)) 94 3 (σ1 94 3 + 1)) 59 48 1) 59 50 0) (flS (tx D v.2.2 400) (D 75 m).toNat 0) := by
    unfold app; rw [if_pos hv, if_pos (by rw [a1]; exact h48)]
  obtain ⟨τ, et⟩ : ∃ τ, τ = xup (xup (xup (xup σ1 59 46 (σ1 59 46 + 1)) 94 3 (σ1 94 3 + 1)) 59 48 1) 59 50 0 := ⟨_, rfl⟩
  rw [← et] at ea
  have t50 : τ 59 50 = 0 := by rw [et, xrs]
  have t48 : τ 59 48 = 1 := by rw [et, xri (by decide), xrs]
  obtain ⟨p1, p2, p3⟩ := putL_at (flS (tx D v.2.2 400) (D 75 m).toNat 0) τ (by omega) (by omega)
  obtain ⟨b1, b2, b3⟩ := fold_keep (D := D) (m := m) post (app D m σ1 v) (Or.inr (by rw [ea, putL_ne (by decide) (by omega), t48]; decide))
  rw [es, b2, b3, ea]
  rw [t50] at p1 p3
  refine ⟨by rw [p1]; simp only [Int.zero_add], fun j x hj j4 => ?_⟩
  have := p3 j x hj (by omega)
  rw [Int.zero_add] at this
  exact this
end RFO
