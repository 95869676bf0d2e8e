/-! ===== the class: what stands() keeps ===== -/
/-- a branch at x, behind a test at i -/
def brC (D : xM) (t : Nat) (M : xM) (nd : Int → aN) (pi : Int → Int → Int) (i at_ : Int) (rows : List aR) (x k : Int) (o : Bool) : Prop :=
  (i < x ∧ x < M t 1) ∧ M (t + 6) x = i ∧ nd x = chB D (nd i).1 (nd i).2.1 (nd i).2.2.1 (nd i).2.2.2.1 at_ rows k o ∧ M (t + 9) x = k ∧ M (t + 10) x = oI o ∧ pi x = piN (pi i) (nd i).2.2.1 (M (t + 11) x) ∧ (0 ≤ M (t + 11) x ∧ M (t + 11) x + nPs D ((nd i).2.2.2.1 88 ((nd i).2.1 at_)) k ≤ M t 4) ∧ ∀ j, 0 ≤ j → j < nPs D ((nd i).2.2.2.1 88 ((nd i).2.1 at_)) k → M (t + 2) (M (t + 11) x + j) = D 62 (3 * (6 * (nd i).2.2.2.1 88 ((nd i).2.1 at_) + k) + j)
/-- a node that has been gone through -/
def prC (D : xM) (t : Nat) (m : Int) (M : xM) (nd : Int → aN) (pi : Int → Int → Int) (i : Int) : Prop :=
  ∃ rows at_, shp D (nd i).1 (nd i).2.1 (nd i).2.2.2.2 = some (rows, at_) ∧
  (0 ≤ at_ → M (t + 3) i = 0 ∧ M (t + 5) i = pi i ((nd i).2.1 at_) ∧ M (t + 8) i = (brs D ((nd i).2.2.2.1 88 ((nd i).2.1 at_)) at_ rows).length ∧ ∀ (j : Nat) k o, (brs D ((nd i).2.2.2.1 88 ((nd i).2.1 at_)) at_ rows)[j]? = some (k, o) → brC D t M nd pi i at_ rows (M (t + 7) i + j) k o) ∧
  (at_ < 0 → (rows = [] → M (t + 3) i = 3) ∧ ∀ r rs, rows = r :: rs → M (t + 4) i = r.1 ∧ (∀ x, 0 ≤ x → x < 16 → M (t + 12) (i * 16 + x) = if r.2.2 x < 0 then -1 else pi i (r.2.2 x)) ∧ (D 79 (12 * m + r.1) < 0 → M (t + 3) i = 2) ∧ (¬ D 79 (12 * m + r.1) < 0 → M (t + 3) i = 1 ∧ M (t + 8) i = 1 ∧ (i < M (t + 7) i ∧ M (t + 7) i < M t 1) ∧ M (t + 6) (M (t + 7) i) = i ∧ nd (M (t + 7) i) = ((nd i).1, (nd i).2.1, (nd i).2.2.1, (nd i).2.2.2.1, rs) ∧ pi (M (t + 7) i) = pi i))
/-- any node of the tree -/
def ndC (D : xM) (t : Nat) (M : xM) (nd : Int → aN) (pi : Int → Int → Int) (i : Int) : Prop :=
  wfN D (nd i).1 (nd i).2.1 (nd i).2.2.1 (nd i).2.2.2.1 (nd i).2.2.2.2 ∧ (∀ r ∈ (nd i).2.2.2.2, nmU D (nd i).1 r) ∧ piO (pi i) (nd i).2.2.1 (M t 4) ∧ ∀ q, 0 ≤ q → q < (nd i).2.2.1 → M (t + 2) (pi i q) = (nd i).2.2.2.1 88 q
/-- a node that waits -/
def wtC (D M : xM) (nd : Int → aN) (pi : Int → Int → Int) (i : Int) : Prop := kpt D M (pi i) (nd i).1 (nd i).2.1 i (nd i).2.2.2.2
/-- what a step at one node keeps of the others: x in keep, places below fp -/
def kpO (t : Nat) (M M' : xM) (keep : Int → Prop) : Prop := (∀ x, keep x → M' (t + 3) x = M (t + 3) x ∧ M' (t + 4) x = M (t + 4) x ∧ M' (t + 5) x = M (t + 5) x ∧ M' (t + 7) x = M (t + 7) x ∧ M' (t + 8) x = M (t + 8) x ∧ ∀ y, 0 ≤ y → y < 16 → M' (t + 12) (x * 16 + y) = M (t + 12) (x * 16 + y)) ∧ (∀ x, x < M t 1 → M' (t + 6) x = M (t + 6) x ∧ M' (t + 9) x = M (t + 9) x ∧ M' (t + 10) x = M (t + 10) x ∧ M' (t + 11) x = M (t + 11) x) ∧ (∀ x, x < M t 4 → M' (t + 2) x = M (t + 2) x) ∧ M t 1 ≤ M' t 1 ∧ M t 4 ≤ M' t 4
section CIV
variable {D : xM} {t : Nat} {m : Int} {M M' : xM} {nd nd' : Int → aN} {pi pi' : Int → Int → Int}
theorem brC_kp {keep : Int → Prop} {i at_ x k : Int} {o : Bool} {rows : List aR} (hk : kpO t M M' keep) (hn : ∀ x, x < M t 1 → nd' x = nd x ∧ pi' x = pi x) (h : brC D t M nd pi i at_ rows x k o) : brC D t M' nd' pi' i at_ rows x k o := by
  obtain ⟨h1, h2, h3, h4, h5, h6, h7, h8⟩ := h
  obtain ⟨-, k2, k3, k4, k5⟩ := hk
  obtain ⟨a1, a2, a3, a4⟩ := k2 x h1.2
  obtain ⟨b1, b2⟩ := hn x h1.2
  obtain ⟨c1, c2⟩ := hn i (by omega)
  unfold brC
  rw [a1, a2, a3, a4, b1, b2, c1, c2]
  exact ⟨⟨h1.1, by omega⟩, h2, h3, h4, h5, h6, ⟨h7.1, by omega⟩, fun j j0 j1 => by rw [k3 _ (by omega)]; exact h8 j j0 j1⟩
theorem prC_kp {keep : Int → Prop} {i : Int} (hk : kpO t M M' keep) (hn : ∀ x, x < M t 1 → nd' x = nd x ∧ pi' x = pi x) (hi : i < M t 1) (hki : keep i) (h : prC D t m M nd pi i) : prC D t m M' nd' pi' i := by
  obtain ⟨rows, at_, h1, h2, h3⟩ := h
  obtain ⟨a3, a4, a5, a7, a8, a12⟩ := hk.1 i hki
  obtain ⟨c1, c2⟩ := hn i hi
  refine ⟨rows, at_, by rw [c1]; exact h1, fun z => ?_, fun z => ?_⟩
  · obtain ⟨g1, g2, g3, g4⟩ := h2 z
    rw [a3, a5, a7, a8, c1, c2]
    exact ⟨g1, g2, g3, fun j k o hj => brC_kp hk hn (g4 j k o hj)⟩
  · obtain ⟨g1, g2⟩ := h3 z
    rw [a3, a4, a7, a8]
    refine ⟨g1, fun r rs hr => ?_⟩
    obtain ⟨f1, f2, f3, f4⟩ := g2 r rs hr
    refine ⟨f1, fun x x0 x1 => by rw [a12 x x0 x1, c2]; exact f2 x x0 x1, f3, fun y => ?_⟩
    obtain ⟨e1, e2, e3, e4, e5, e6⟩ := f4 y
    obtain ⟨d1, d2⟩ := hn _ e3.2
    have := hk.2.2.2.1
    rw [(hk.2.1 _ e3.2).1, d1, d2, c1, c2]
    exact ⟨e1, e2, ⟨e3.1, by omega⟩, e4, e5, e6⟩
theorem ndC_kp {keep : Int → Prop} {i : Int} (hk : kpO t M M' keep) (hn : ∀ x, x < M t 1 → nd' x = nd x ∧ pi' x = pi x) (hi : i < M t 1) (h : ndC D t M nd pi i) : ndC D t M' nd' pi' i := by
  obtain ⟨h1, h2, h3, h4⟩ := h
  obtain ⟨c1, c2⟩ := hn i hi
  unfold ndC
  rw [c1, c2]
  have := hk.2.2.2.2
  refine ⟨h1, h2, ⟨fun q q0 q1 => ⟨(h3.1 q q0 q1).1, by have := (h3.1 q q0 q1).2; omega⟩, h3.2⟩, fun q q0 q1 => ?_⟩
  rw [hk.2.2.1 _ (h3.1 q q0 q1).2]; exact h4 q q0 q1
end CIV
