/-! ===== the class: the tree's own methods, the stack, the names of a node ===== -/
section CTR
variable {e : yE} {d : Nat} {M : xM} {t : Nat}
/-- a node becomes something -/
def bcm (M : xM) (t : Nat) (i k : Int) : xM := if k = 3 ∧ M t 3 = -1 then xup (xup (xup M (t + 3) i k) (t + 1) k (M (t + 1) k + 1)) t 3 i else xup (xup M (t + 3) i k) (t + 1) k (M (t + 1) k + 1)
theorem s_become {Q : xM → Prop} {i k : Int} (hs : CSh e) (ht : XSh6 t e) (hi : 0 ≤ i ∧ i < 120) (hk : 0 ≤ k ∧ k < 4) (h3 : rg (M t 3)) (h : Q (bcm M t i k)) : C_Tr_become e (d + 1) t i k M Q := by
  unfold bcm at h
  refine c_Tr_become (c_Tr_become_0 hs ht ⟨hi, fun M1 e1 => ⟨hk, hk, fun M2 e2 => ?_⟩⟩)
  have f1 : M1 (t + 1) k = M (t + 1) k := by rw [e1, xrd (by omega)]
  rw [f1] at e2
  have f3 : M2 t 3 = M t 3 := by rw [e2, xrd (by omega), e1, xrd (by omega)]
  rw [f3]
  refine ⟨⟨by omega, by omega⟩, fun z => ?_, fun z => ⟨h3, fun z2 => ?_, fun z2 M3 e3 => ?_⟩⟩
  · rw [if_neg (fun y => z y.1)] at h
    rw [e2, e1]; exact h
  · rw [if_neg (fun y => z2 y.2)] at h
    rw [e2, e1]; exact h
  · rw [if_pos ⟨Classical.not_not.mp z, Classical.not_not.mp z2⟩] at h
    rw [e3, e2, e1]; exact h
theorem bcm_fr {i k : Int} : (∀ j, j ≠ t → j ≠ t + 1 → j ≠ t + 3 → bcm M t i k j = M j) ∧ (∀ x, x ≠ 3 → bcm M t i k t x = M t x) ∧ bcm M t i k t 3 = (if k = 3 ∧ M t 3 = -1 then i else M t 3) ∧ (∀ x, bcm M t i k (t + 1) x = if x = k then M (t + 1) k + 1 else M (t + 1) x) ∧ (∀ x, bcm M t i k (t + 3) x = if x = i then k else M (t + 3) x) := by
  unfold bcm
  by_cases c : k = 3 ∧ M t 3 = -1
  · rw [if_pos c, if_pos c]
    refine ⟨fun j h1 h2 h3 => by rw [xrd h1, xrd h2, xrd h3], fun x hx => by rw [xri hx, xrd (by omega), xrd (by omega)], xrs, fun x => ?_, fun x => ?_⟩
    · rw [xrd (by omega), xup_ap]
      by_cases z : x = k
      · rw [if_pos ⟨rfl, z⟩, if_pos z]
      · rw [if_neg (fun y => z y.2), if_neg z, xrd (by omega)]
    · rw [xrd (by omega), xrd (by omega), xup_ap]
      by_cases z : x = i
      · rw [if_pos ⟨rfl, z⟩, if_pos z]
      · rw [if_neg (fun y => z y.2), if_neg z]
  · rw [if_neg c, if_neg c]
    refine ⟨fun j h1 h2 h3 => by rw [xrd h2, xrd h3], fun x hx => by rw [xrd (by omega), xrd (by omega)], by rw [xrd (by omega), xrd (by omega)], fun x => ?_, fun x => ?_⟩
    · rw [xup_ap]
      by_cases z : x = k
      · rw [if_pos ⟨rfl, z⟩, if_pos z]
      · rw [if_neg (fun y => z y.2), if_neg z, xrd (by omega)]
    · rw [xrd (by omega), xup_ap]
      by_cases z : x = i
      · rw [if_pos ⟨rfl, z⟩, if_pos z]
      · rw [if_neg (fun y => z y.2), if_neg z]
/-- branches come behind a node -/
theorem s_addBranches {Q : Int → xM → Prop} {i : Int} {n : Nat} (hs : CSh e) (ht : XSh6 t e) (hi : -1 ≤ i ∧ i < 120) (hn : n ≤ 30) (h1 : 0 ≤ M t 1 ∧ M t 1 ≤ 120) (hover : ¬ (M t 1 + n ≤ 120) → Q (-1) (xup M t 0 1))
    (h : M t 1 + n ≤ 120 → ∀ M', (∀ j, j ≠ t → j ≠ t + 6 → j ≠ t + 7 → j ≠ t + 8 → M' j = M j) → (∀ x, x ≠ 1 → M' t x = M t x) → M' t 1 = M t 1 + n → (∀ x, M' (t + 6) x = if M t 1 ≤ x ∧ x < M t 1 + n then i else M (t + 6) x) → (∀ x, M' (t + 7) x = if x = i ∧ i ≠ -1 then M t 1 else M (t + 7) x) → (∀ x, M' (t + 8) x = if x = i ∧ i ≠ -1 then (n : Int) else M (t + 8) x) → Q (M t 1) M') : C_Tr_addBranches e (d + 1) t i n M Q := by
  refine c_Tr_addBranches (c_Tr_addBranches_0 hs ht ⟨⟨by omega, by omega⟩, fun z => ?_, fun z M1 e1 => by rw [e1]; exact hover z⟩)
  have h := h z
  refine for_up (fun k M' => C_Tr_addBranches_26 e d t i n (M t 1) k M' Q) (fun k M' => 0 ≤ k ∧ (∀ j, j ≠ t → j ≠ t + 6 → M' j = M j) ∧ (∀ x, x ≠ 1 → M' t x = M t x) ∧ M' t 1 = M t 1 + k ∧ (∀ x, M' (t + 6) x = if M t 1 ≤ x ∧ x < M t 1 + k then i else M (t + 6) x)) n ?_ ?_ 0 M (by omega) ⟨by omega, fun _ _ _ => rfl, fun _ _ => rfl, by omega, fun x => by rw [if_neg (by omega)]⟩
  · rintro k M' ⟨k0, g1, g2, g3, g4⟩ hlt hgo
    refine c_Tr_addBranches_26 hs ht ⟨⟨⟨by omega, by omega⟩, ⟨by omega, by omega⟩⟩, fun y => absurd y (by omega), fun _ => ⟨by omega, fun M3 e3 M4 e4 => hgo M4 ⟨by omega, fun j h1 h2 => ?_, fun x hx => ?_, ?_, fun x => ?_⟩⟩⟩
    · rw [e4, xrd h1, e3, xrd h2]; exact g1 j h1 h2
    · rw [e4, xri hx, e3, xrd (by omega)]; exact g2 x hx
    · rw [e4, xrs, e3, xrd (by omega), g3]; omega
    · rw [e4, xrd (by omega), e3, g3, xup_ap]
      by_cases y : x = M t 1 + k
      · rw [if_pos ⟨rfl, y⟩, if_pos (by omega)]
      · rw [if_neg (fun q => y q.2), g4 x]
        by_cases y2 : M t 1 ≤ x ∧ x < M t 1 + k
        · rw [if_pos y2, if_pos (by omega)]
        · rw [if_neg y2, if_neg (by omega)]
  · rintro M' ⟨k0, g1, g2, g3, g4⟩
    refine c_Tr_addBranches_26 hs ht ⟨⟨⟨by omega, by omega⟩, ⟨by omega, by omega⟩⟩, fun _ => ⟨⟨by omega, by omega⟩, fun y => ?_, fun y => ⟨by omega, fun M1 e1 => ⟨by omega, fun M2 e2 => ?_⟩⟩⟩, fun y => absurd (by omega) y⟩
    · refine h M' (fun j h1 h2 _ _ => g1 j h1 h2) g2 g3 g4 (fun x => ?_) (fun x => ?_)
      · rw [if_neg (fun q => q.2 y), g1 (t + 7) (by omega) (by omega)]
      · rw [if_neg (fun q => q.2 y), g1 (t + 8) (by omega) (by omega)]
    · refine h M2 (fun j h1 h2 h3 h4 => ?_) (fun x hx => ?_) ?_ (fun x => ?_) (fun x => ?_) (fun x => ?_)
      · rw [e2, xrd h4, e1, xrd h3]; exact g1 j h1 h2
      · rw [e2, xrd (by omega), e1, xrd (by omega)]; exact g2 x hx
      · rw [e2, xrd (by omega), e1, xrd (by omega)]; exact g3
      · rw [e2, xrd (by omega), e1, xrd (by omega)]; exact g4 x
      · rw [e2, xrd (by omega), e1, xup_ap]
        by_cases q : x = i
        · rw [if_pos ⟨rfl, q⟩, if_pos ⟨q, y⟩]
        · rw [if_neg (fun z => q z.2), if_neg (fun z => q z.1), g1 (t + 7) (by omega) (by omega)]
      · rw [e2, xup_ap]
        by_cases q : x = i
        · rw [if_pos ⟨rfl, q⟩, if_pos ⟨q, y⟩]
        · rw [if_neg (fun z => q z.2), if_neg (fun z => q z.1), e1, xrd (by omega), g1 (t + 8) (by omega) (by omega)]
/-- first, first + 1, .. -/
def rng (x : Int) : Nat → List Int
  | 0 => []
  | n + 1 => x :: rng (x + 1) n
theorem rng_get {x : Int} : ∀ (n k : Nat) (y : Int), (rng x n)[k]? = some y → k < n ∧ y = x + k := by
  intro n
  induction n generalizing x with
  | zero => intro k y h; simp [rng] at h
  | succ n ih =>
    intro k y h
    cases k with
    | zero => simp [rng] at h; exact ⟨by omega, by omega⟩
    | succ k =>
      have h : (rng (x + 1) n)[k]? = some y := by simpa [rng] using h
      obtain ⟨a, b⟩ := ih k y h
      exact ⟨by omega, by omega⟩
theorem rng_len {x : Int} : ∀ n : Nat, (rng x n).length = n := by
  intro n
  induction n generalizing x with
  | zero => rfl
  | succ n ih => show (rng (x + 1) n).length + 1 = n + 1; rw [ih]
/-- what waits, the top first -/
def wtg (M : xM) (ws : List Int) : Prop := M 29 5 = ws.length ∧ ∀ (k : Nat) x, ws[k]? = some x → M 38 ((ws.length : Int) - 1 - k) = x
theorem s_putOff {Q : xM → Prop} {x : Int} {n : Nat} {ws : List Int} (hs : CSh e) (hw : wtg M ws) (hn : ws.length + n ≤ 120) (h : ∀ M', (∀ j, j ≠ 29 → j ≠ 38 → M' j = M j) → (∀ y, y ≠ 5 → M' 29 y = M 29 y) → wtg M' (rng x n ++ ws) → Q M') : C_Bu_putOff e (d + 1) x n M Q := by
  obtain ⟨w1, w2⟩ := hw
  refine c_Bu_putOff (c_Bu_putOff_0 hs ?_)
  refine for_dn (fun k M' => C_Bu_putOff_4 e d x k M' Q) (fun k M' => (∀ j, j ≠ 29 → j ≠ 38 → M' j = M j) ∧ (∀ y, y ≠ 5 → M' 29 y = M 29 y) ∧ -1 ≤ k ∧ k < n ∧ M' 29 5 = ws.length + (n - 1 - k) ∧ (∀ y : Int, y < ws.length → M' 38 y = M 38 y) ∧ (∀ j, 0 ≤ j → j < n - 1 - k → M' 38 (ws.length + j) = x + (n - 1 - j))) (-1) ?_ ?_ ((n : Int) - 1) M (by omega) ⟨fun _ _ _ => rfl, fun _ _ => rfl, by omega, by omega, by rw [w1]; omega, fun _ _ => rfl, fun j h0 h1 => by omega⟩
  · rintro k M' ⟨g1, g2, g3, g4, g5, g6, g7⟩ hlt hgo
    refine c_Bu_putOff_4 hs ⟨⟨by omega, by omega⟩, fun z => absurd z (by omega), fun _ => ⟨by omega, fun M1 e1 M2 e2 => ?_⟩⟩
    rw [show k + (-1 : Int) = k - 1 by omega]
    refine hgo M2 ⟨fun j h1 h2 => by rw [e2, xrd h1, e1, xrd h2]; exact g1 j h1 h2, fun y hy => by rw [e2, xri hy, e1, xrd (by decide)]; exact g2 y hy, by omega, by omega, by rw [e2, xrs, e1, xrd (by decide), g5]; omega, fun y hy => ?_, fun j h0 h1 => ?_⟩
    · rw [e2, xrd (by decide), e1, xri (by omega)]; exact g6 y hy
    · rw [e2, xrd (by decide), e1, g5]
      by_cases z : j = n - 1 - k
      · rw [z, xrs]; omega
      · rw [xri (by omega)]; exact g7 j h0 (by omega)
  · rintro M' ⟨g1, g2, g3, g4, g5, g6, g7⟩
    refine c_Bu_putOff_4 hs ⟨⟨by omega, by omega⟩, fun _ => h M' g1 g2 ⟨?_, fun k y hk => ?_⟩, fun z => absurd (by omega) z⟩
    · rw [g5, List.length_append, rng_len]; omega
    · rw [List.length_append, rng_len]
      by_cases z : k < n
      · rw [List.getElem?_append_left (by rw [rng_len]; exact z)] at hk
        obtain ⟨-, hy⟩ := rng_get n k y hk
        have := g7 (n - 1 - k) (by omega) (by omega)
        rw [show ((n + ws.length : Nat) : Int) - 1 - k = ws.length + (n - 1 - k) by omega, this, hy]; omega
      · rw [List.getElem?_append_right (by rw [rng_len]; omega), rng_len] at hk
        have hkl : k - n < ws.length := by
          rcases Nat.lt_or_ge (k - n) ws.length with q | q
          · exact q
          · rw [List.getElem?_eq_none q] at hk; cases hk
        have := w2 (k - n) y hk
        rw [show ((n + ws.length : Nat) : Int) - 1 - k = (ws.length : Int) - 1 - ((k - n : Nat) : Int) by omega, g6 _ (by omega)]
        exact this
/-- a node's rows come to hand -/
theorem s_loadRows {Q : xM → Prop} {i : Int} {n : Nat} (hs : CSh e) (hi : 0 ≤ i ∧ i < 120) (h40 : M 40 i = n) (hn : n ≤ 24) (h : ∀ M', (∀ j, j ≠ 29 → j ≠ 41 → M' j = M j) → (∀ y, y ≠ 9 → M' 29 y = M 29 y) → M' 29 9 = (n : Int) → (∀ r : Nat, r < n → M' 41 r = M 39 (i * 24 + r)) → Q M') : C_Bu_loadRows e (d + 1) i M Q := by
  refine c_Bu_loadRows (c_Bu_loadRows_0 hs ⟨hi, fun M1 e1 => ?_⟩)
  have f9 : M1 29 9 = n := by rw [e1, xrs]; exact h40
  rw [f9]
  refine ⟨⟨by decide, ⟨by omega, by omega, by omega, by omega, by omega⟩, by decide, by decide⟩, fun M2 e2 => ?_⟩
  have k : ∀ j, j ≠ 41 → M2 j = M1 j := by
    intro j hj
    rw [e2]; funext x
    show (if j = 41 ∧ _ then _ else _) = _
    rw [if_neg (fun z => hj z.1)]
  refine h M2 (fun j h1 h2 => by rw [k j h2, e1, xrd h1]) (fun y hy => by rw [k 29 (by decide), e1, xri hy]) (by rw [k 29 (by decide)]; exact f9) (fun r hr => ?_)
  rw [e2]
  show (if 41 = 41 ∧ 0 ≤ (r : Int) ∧ (r : Int) < 0 + n then M1 39 (i * 24 + ((r : Int) - 0)) else _) = _
  rw [if_pos ⟨rfl, by omega, by omega⟩, e1, xrd (by decide), show i * 24 + ((r : Int) - 0) = i * 24 + r by omega]
end CTR
