/-! ===== the class: one step keeps the invariant ===== -/
theorem evt_E {D E : xM} {m at_ : Int} {rows : List aR} : (evt D m E rows at_).2.2 = E := by
  unfold evt
  by_cases z : at_ < 0
  · rw [if_pos z]
    cases rows with
    | nil => rfl
    | cons r rs =>
      show (if D 79 (12 * m + r.1) < 0 then ((2 : Int), r.1, E) else (1, r.1, E)).2.2 = E
      split <;> rfl
  · rw [if_neg z]
theorem rng_mem {x y : Int} : ∀ n : Nat, y ∈ rng x n ↔ x ≤ y ∧ y < x + n := by
  intro n
  induction n generalizing x with
  | zero => constructor
            · intro h; cases h
            · intro h; omega
  | succ n ih =>
    show y ∈ x :: rng (x + 1) n ↔ _
    rw [List.mem_cons, ih]; omega
theorem rng_nd {x : Int} : ∀ n : Nat, (rng x n).Nodup := by
  intro n
  induction n generalizing x with
  | zero => exact List.nodup_nil
  | succ n ih =>
    show (x :: rng (x + 1) n).Nodup
    rw [List.nodup_cons]
    exact ⟨fun h => by have := (rng_mem n).mp h; omega, ih⟩
section CIY
variable {D : xM} {t : Nat} {m i at_ : Int} {M M' : xM} {nd nd' : Int → aN} {pi pi' : Int → Int → Int}
theorem iv_step {evs : List aV} {ws : List Int} {rows : List aR} {n : Nat} (h : ivT D t m M nd pi evs (i :: ws)) (hq : shp D (nd i).1 (nd i).2.1 (nd i).2.2.2.2 = some (rows, at_)) (hn : ∀ x, x < M t 1 → nd' x = nd x ∧ pi' x = pi x) (hk : kpO t M M' (fun x => x ≠ i)) (h0 : M' t 0 = 0) (h1 : M' t 1 = M t 1 + n) (h120 : M' t 1 ≤ 120) (h4 : M' t 4 ≤ 3 * M' t 1) (hch : (rng (M t 1) n).map nd' = chd D m (nd i).1 (nd i).2.1 (nd i).2.2.1 (nd i).2.2.2.1 rows at_) (hpr : prC D t m M' nd' pi' i) (hnew : ∀ x, M t 1 ≤ x → x < M' t 1 → ndC D t M' nd' pi' x ∧ wtC D M' nd' pi' x) (hwt : ∀ x ∈ ws, wtC D M nd pi x → wtC D M' nd pi x) (h30 : M' 30 0 ≤ 24 + 48 * (evs.length + 1) + 2 * (sumR ((rng (M t 1) n).map nd') + sumR (ws.map nd))) (h34 : M' 34 0 ≤ 86 * M' 30 0) (htl : ∀ k, 0 ≤ k → k < 4 → M' (t + 1) k = M (t + 1) k + if (evt D m (nd i).2.2.2.1 rows at_).1 = k then 1 else 0) (h2 : M' t 2 = if (evt D m (nd i).2.2.2.1 rows at_).1 = 1 ∨ (evt D m (nd i).2.2.2.1 rows at_).1 = 2 then xor32 (M t 2) (xshl32 1 (evt D m (nd i).2.2.2.1 rows at_).2.1) else M t 2) (h3 : M' t 3 = if (evt D m (nd i).2.2.2.1 rows at_).1 = 3 ∧ M t 3 = -1 then i else M t 3) : ivT D t m M' nd' pi' (evs ++ [evt D m (nd i).2.2.2.1 rows at_]) (rng (M t 1) n ++ ws) := by
  obtain ⟨a1, ⟨b1, b2, b3, b4, b5⟩, ⟨c1, c2⟩, d1, ⟨e1, e2⟩, ⟨f1, f2⟩, g1, g2, ⟨k1, k2⟩⟩ := h
  rw [List.length_cons] at b2
  have hi := c2 i (by simp)
  rw [List.nodup_cons] at c1
  have hws : ∀ x ∈ ws, 0 ≤ x ∧ x < M t 1 := fun x hx => c2 x (by simp [hx])
  have hmap : ws.map nd' = ws.map nd := List.map_congr_left (fun x hx => (hn x (hws x hx).2).1)
  have hv := evt_E (D := D) (E := (nd i).2.2.2.1) (m := m) (at_ := at_) (rows := rows)
  obtain ⟨v, hvd⟩ : ∃ v, v = evt D m (nd i).2.2.2.1 rows at_ := ⟨_, rfl⟩
  have hstep := fin_step (a := nd i) (S := ws.map nd) a1 (by omega) hq
  rw [← hvd] at hv htl h2 h3 hstep ⊢
  have hnot : ∀ x, 0 ≤ x → x < M t 1 → x ∉ i :: ws → x ∉ rng (M t 1) n ++ ws := by
    intro x _ x1 hx hx2
    rcases List.mem_append.mp hx2 with z | z
    · have := (rng_mem n).mp z; omega
    · exact hx (by simp [z])
  have hinot : i ∉ rng (M t 1) n ++ ws := by
    intro hx2
    rcases List.mem_append.mp hx2 with z | z
    · have := (rng_mem n).mp z; omega
    · exact c1.1 z
  refine ⟨?_, ⟨h0, ?_, h120, ?_, h4⟩, ⟨?_, fun x hx => ?_⟩, fun x x0 x1 => ?_, ⟨by rw [(hn 0 (by omega)).1]; exact e1, by rw [(hn 0 (by omega)).2]; exact e2⟩, ⟨?_, h34⟩, fun k k0 k4 => ?_, ?_, ⟨fun z => ?_, fun pre v' post hp h3' hc => ?_⟩⟩
  · rw [List.map_append, hch, hmap]; exact hstep
  · rw [h1, b2, List.length_append, List.length_append, rng_len, List.length_singleton]; omega
  · have := hk.2.2.2.2; omega
  · rw [List.nodup_append]
    refine ⟨rng_nd n, c1.2, fun x hx y hy hxy => ?_⟩
    have := (rng_mem n).mp hx
    have := hws y hy
    omega
  · rcases List.mem_append.mp hx with z | z
    · have := (rng_mem n).mp z; omega
    · have := hws x z; omega
  · by_cases z : x < M t 1
    · obtain ⟨p1, p2, p3⟩ := d1 x x0 z
      obtain ⟨q1, q2⟩ := hn x z
      refine ⟨ndC_kp hk hn z p1, fun hx => ?_, fun hx => ?_⟩
      · rcases List.mem_append.mp hx with y | y
        · have := (rng_mem n).mp y; omega
        · have := hwt x y (p2 (by simp [y]))
          unfold wtC at this ⊢
          rw [q1, q2]; exact this
      · by_cases y : x = i
        · rw [y]; exact hpr
        · refine prC_kp hk hn z y (p3 (fun hx2 => ?_))
          rcases List.mem_cons.mp hx2 with w | w
          · exact y w
          · exact hx (List.mem_append_right _ w)
    · obtain ⟨p1, p2⟩ := hnew x (by omega) x1
      exact ⟨p1, fun _ => p2, fun hx => absurd (List.mem_append_left _ ((rng_mem n).mpr (by omega))) hx⟩
  · rw [List.map_append, sumR_app, hmap, List.length_append, List.length_singleton]; omega
  · rw [htl k k0 k4, g1 k k0 k4, cntK_app]
    split <;> omega
  · rw [ndM_app, h2, g2]
  · rw [cntK_app] at z
    by_cases y : v.1 = 3
    · rw [if_pos y] at z; omega
    · rw [h3, if_neg (fun w => y w.1)]; exact k1 (by omega)
  · rcases List.eq_nil_or_concat post with z | ⟨post', w, z⟩
    · subst z
      obtain ⟨z1, z2⟩ := List.append_inj' hp rfl
      have z2 : v = v' := by simpa using z2
      subst z1; subst z2
      rw [h3, if_pos ⟨h3', k1 hc⟩]
      exact ⟨by omega, hinot, by rw [(hn i hi.2).1]; exact hv.symm⟩
    · have hp2 : evs ++ [v] = (pre ++ v' :: post') ++ [w] := by rw [hp, z]; simp
      obtain ⟨z1, -⟩ := List.append_inj' hp2 rfl
      obtain ⟨y1, y2, y3⟩ := k2 pre v' post' z1 h3' hc
      rw [h3, if_neg (by omega)]
      exact ⟨by omega, hnot _ y1.1 y1.2 y2, by rw [(hn _ y1.2).1]; exact y3⟩
end CIY
