/-! ===== the class: the invariant of stands() ===== -/
/-- how many nodes of a kind -/
def cntK (k : Int) : List aV → Nat
  | [] => 0
  | v :: l => (if v.1 = k then 1 else 0) + cntK k l
theorem cntK_app {k : Int} : ∀ (l : List aV) (v : aV), cntK k (l ++ [v]) = cntK k l + if v.1 = k then 1 else 0 := by
  intro l v
  induction l with
  | nil => show (if v.1 = k then 1 else 0) + 0 = 0 + _; omega
  | cons x l ih =>
    show (if x.1 = k then 1 else 0) + cntK k (l ++ [v]) = (if x.1 = k then 1 else 0) + cntK k l + _
    rw [ih]; omega
/-- rows that are needed -/
noncomputable def ndM : Int → List aV → Int
  | x, [] => x
  | x, v :: l => ndM (if v.1 = 1 ∨ v.1 = 2 then xor32 x (xshl32 1 v.2.1) else x) l
theorem ndM_app : ∀ (l : List aV) (x : Int) (v : aV), ndM x (l ++ [v]) = if v.1 = 1 ∨ v.1 = 2 then xor32 (ndM x l) (xshl32 1 v.2.1) else ndM x l := by
  intro l
  induction l with
  | nil => intro x v; rfl
  | cons y l ih => intro x v; exact ih _ v
/-- the first failure is there -/
def ffC (M : xM) (t : Nat) (nd : Int → aN) (evs : List aV) (ws : List Int) : Prop := (cntK 3 evs = 0 → M t 3 = -1) ∧ ∀ pre v post, evs = pre ++ v :: post → v.1 = 3 → cntK 3 pre = 0 → (0 ≤ M t 3 ∧ M t 3 < M t 1) ∧ M t 3 ∉ ws ∧ (nd (M t 3)).2.2.2.1 = v.2.2
/-- the tree as far as it has been gone through: events evs, waiting ws -/
def ivT (D : xM) (t : Nat) (m : Int) (M : xM) (nd : Int → aN) (pi : Int → Int → Int) (evs : List aV) (ws : List Int) : Prop :=
  fin_ D m 120 [root D m] = (fin_ D m (120 - evs.length) (ws.map nd)).map (fun l => evs ++ l) ∧
  (M t 0 = 0 ∧ M t 1 = evs.length + ws.length ∧ M t 1 ≤ 120 ∧ 0 ≤ M t 4 ∧ M t 4 ≤ 3 * M t 1) ∧
  (ws.Nodup ∧ ∀ i ∈ ws, 0 ≤ i ∧ i < M t 1) ∧
  (∀ i, 0 ≤ i → i < M t 1 → ndC D t M nd pi i ∧ (i ∈ ws → wtC D M nd pi i) ∧ (i ∉ ws → prC D t m M nd pi i)) ∧
  (nd 0 = root D m ∧ pi 0 = fun q => q) ∧
  (M 30 0 ≤ 24 + 48 * evs.length + 2 * sumR (ws.map nd) ∧ M 34 0 ≤ 86 * M 30 0) ∧
  (∀ k, 0 ≤ k → k < 4 → M (t + 1) k = cntK k evs) ∧ M t 2 = ndM 0 evs ∧ ffC M t nd evs ws
section CIW
variable {D : xM} {m : Int} {nd : Int → aN}
theorem fin_step {evs : List aV} {S : List aN} {a : aN} {rows : List aR} {at_ : Int} (h : fin_ D m 120 [root D m] = (fin_ D m (120 - evs.length) (a :: S)).map (fun l => evs ++ l)) (hl : evs.length < 120) (hq : shp D a.1 a.2.1 a.2.2.2.2 = some (rows, at_)) : fin_ D m 120 [root D m] = (fin_ D m (120 - (evs ++ [evt D m a.2.2.2.1 rows at_]).length) (chd D m a.1 a.2.1 a.2.2.1 a.2.2.2.1 rows at_ ++ S)).map (fun l => (evs ++ [evt D m a.2.2.2.1 rows at_]) ++ l) := by
  have e1 : 120 - evs.length = (119 - evs.length) + 1 := by omega
  have e2 : 120 - (evs ++ [evt D m a.2.2.2.1 rows at_]).length = 119 - evs.length := by rw [List.length_append, List.length_singleton]; omega
  have e3 := fin_some (m := m) (np := a.2.2.1) (E := a.2.2.2.1) (S := S) (n := 119 - evs.length) hq
  rw [e2, h, e1]
  have e4 : fin_ D m (119 - evs.length + 1) (a :: S) = _ := e3
  rw [e4]
  cases fin_ D m (119 - evs.length) (chd D m a.1 a.2.1 a.2.2.1 a.2.2.2.1 rows at_ ++ S) with
  | none => rfl
  | some l => show some (evs ++ (evt D m a.2.2.2.1 rows at_ :: l)) = some ((evs ++ [evt D m a.2.2.2.1 rows at_]) ++ l); simp
/-- too many rows in a node: no tree -/
theorem fin_rows {evs : List aV} {S : List aN} {a : aN} (h : fin_ D m 120 [root D m] = (fin_ D m (120 - evs.length) (a :: S)).map (fun l => evs ++ l)) (hq : shp D a.1 a.2.1 a.2.2.2.2 = none) : fin_ D m 120 [root D m] = none := by
  rw [h, show fin_ D m (120 - evs.length) (a :: S) = none from fin_over (np := a.2.2.1) (E := a.2.2.2.1) hq]; rfl
/-- too many nodes: no tree -/
theorem fin_many {evs : List aV} {S : List aN} (h : fin_ D m 120 [root D m] = (fin_ D m (120 - evs.length) S).map (fun l => evs ++ l)) (hev : evs.length ≤ 120) (hq : 120 < evs.length + S.length) : fin_ D m 120 [root D m] = none := by
  rw [h]
  cases hf : fin_ D m (120 - evs.length) S with
  | none => rfl
  | some l =>
    have := fin_len (120 - evs.length) S (by rw [hf]; intro y; cases y)
    omega
/-- nothing waits: the tree stands -/
theorem fin_done {evs : List aV} (h : fin_ D m 120 [root D m] = (fin_ D m (120 - evs.length) []).map (fun l => evs ++ l)) : fin_ D m 120 [root D m] = some evs := by
  rw [h, fin_nil]; show some (evs ++ []) = _; rw [List.append_nil]
end CIW
