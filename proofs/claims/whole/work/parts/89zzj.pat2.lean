/-! ===== a pattern more ===== -/
def pGr (D D' : xM) (kd t h w b ei n : Int) (a : Int → Int) : Prop := (∀ c, (59 < c ∧ c ≤ 99) → ¬ (68 ≤ c ∧ c ≤ 74) → D' c = D c) ∧ (D' 59 18 = D 59 18 + 1 ∧ ∀ i, i ≠ 0 → i ≠ 18 → D' 59 i = D 59 i) ∧ (D' 68 (D 59 18) = kd ∧ D' 69 (D 59 18) = t ∧ D' 70 (D 59 18) = h ∧ D' 72 (D 59 18) = w ∧ D' 73 (D 59 18) = b ∧ D' 74 (D 59 18) = ei) ∧ (∀ i, i ≠ D 59 18 → D' 68 i = D 68 i ∧ D' 69 i = D 69 i ∧ D' 70 i = D 70 i ∧ D' 72 i = D 72 i ∧ D' 73 i = D 73 i ∧ D' 74 i = D 74 i) ∧ (∀ j, 0 ≤ j → j < n → D' 71 (3 * D 59 18 + j) = a j) ∧ ∀ i, i < 3 * D 59 18 → D' 71 i = D 71 i
/-- what a new pattern must be -/
def pNw (M : xM) (kd t h n kind own : Int) (a : Int → Int) : Prop :=
  (kd = 0 ∧ n = 0 ∧ (-1 ≤ h ∧ h < 16) ∧ ((h = -1 ∧ kind = 0 ∧ own = 0) ∨ (0 ≤ h ∧ kind = 1 ∧ own = xshl32 1 h))) ∨
  (kd = 1 ∧ n = 0 ∧ t = 0 ∧ kind = 3 ∧ own = 0) ∨
  (kd = 2 ∧ (0 ≤ h ∧ h < M 60 t) ∧ 0 < t ∧ n = M 61 (6 * t + h) ∧ kind = 4 ∧ own = 0 ∧ (∀ j, 0 ≤ j → j < n → M 69 (a j) = M 62 (3 * (6 * t + h) + j)) ∧ ∀ x i j, 0 ≤ x → x < 16 → 0 ≤ i → i < j → j < n → ¬ (nmb M (a i) x ∧ nmb M (a j) x)) ∨
  (kd = 3 ∧ (0 ≤ h ∧ h < 16) ∧ n = 1 ∧ kind = 2 ∧ own = xshl32 1 h ∧ M 69 (a 0) = t ∧ ¬ nmb M (a 0) h) ∨
  (kd = 4 ∧ n = 2 ∧ kind = 5 ∧ own = 0 ∧ M 69 (a 0) = t ∧ M 69 (a 1) = t ∧ M 73 (a 0) = M 73 (a 1))
section PAT
variable {e : yE} {d : Nat} {M M0 M1 M2 : xM} {kd t h w b ei n kind own : Int} {a : Int → Int}
theorem orS_c {f g a : Int → Int} {x : Int} : ∀ n : Nat, (∀ j : Int, 0 ≤ j → j < n → f (a j) = g (a j)) → orS f a x n = orS g a x n := by
  intro n
  induction n with
  | zero => intro _; rfl
  | succ n ih =>
    intro h
    show xor32 (orS f a x n) (f (a n)) = xor32 (orS g a x n) (g (a n))
    rw [ih (fun j j0 j1 => h j j0 (by omega)), h n (by omega) (by omega)]
theorem fkS_c {f g a : Int → Int} {x : Int} : ∀ n : Nat, (∀ j : Int, 0 ≤ j → j < n → f (a j) = g (a j)) → fkS f a x n = fkS g a x n := by
  intro n
  induction n with
  | zero => intro _; rfl
  | succ n ih =>
    intro h
    show (if fkS f a x n ≠ 0 then (1 : Int) else if f (a n) = 0 then 0 else 1) = (if fkS g a x n ≠ 0 then (1 : Int) else if g (a n) = 0 then 0 else 1)
    rw [ih (fun j j0 j1 => h j j0 (by omega)), h n (by omega) (by omega)]
theorem sm3_c {f g : Int → Int} {n x0 x1 x2 y0 y1 y2 : Int} (h0 : 0 < n → f x0 = g y0) (h1 : 1 < n → f x1 = g y1) (h2 : 2 < n → f x2 = g y2) : sm3 f n x0 x1 x2 = sm3 g n y0 y1 y2 := by
  unfold sm3
  by_cases z0 : 0 < n
  · rw [if_pos z0, if_pos z0, h0 z0]
    by_cases z1 : 1 < n
    · rw [if_pos z1, if_pos z1, h1 z1]
      by_cases z2 : 2 < n
      · rw [if_pos z2, if_pos z2, h2 z2]
      · rw [if_neg z2, if_neg z2]
    · rw [if_neg z1, if_neg z1, if_neg (show ¬ 2 < n by omega), if_neg (show ¬ 2 < n by omega)]
  · rw [if_neg z0, if_neg z0, if_neg (show ¬ 1 < n by omega), if_neg (show ¬ 1 < n by omega), if_neg (show ¬ 2 < n by omega), if_neg (show ¬ 2 < n by omega)]
/-- the reference has a pattern more: what it was stays -/
theorem pGr_cng (hg : pGr M M2 kd t h w b ei n a) (hp : wfP M) : (∀ x, cng M M2 x) ∧ (∀ p, isP M2 p ↔ isP M p ∨ p = M 59 18) ∧ ∀ p, isP M p → M2 74 p = M 74 p := by
  obtain ⟨g1, ⟨g2, g2'⟩, ⟨g3, g4, g5, g6, g7, g8⟩, g9, g10, g11⟩ := hg
  have P0 := hp.1
  refine ⟨fun x => ⟨by omega, fun p hq => ?_, ?_, fun r _ _ => ?_, ?_⟩, fun p => ?_, fun p hq => ?_⟩
  · have hq2 := hq.2
    obtain ⟨c1, c2, c3, c4, c5, c6⟩ := g9 p (by omega)
    exact ⟨c1, c2, c3, c4, c5, fun j j0 j1 => g11 _ (by omega)⟩
  · rw [g1 60 (by decide) (by omega), g1 61 (by decide) (by omega), g1 62 (by decide) (by omega), g1 63 (by decide) (by omega), g2' 1 (by decide) (by decide)]; exact ⟨rfl, rfl, rfl, rfl, Int.le_refl _⟩
  · rw [g1 79 (by decide) (by omega), g1 80 (by decide) (by omega)]; exact ⟨rfl, rfl⟩
  · rw [g1 75 (by decide) (by omega), g1 76 (by decide) (by omega), g1 77 (by decide) (by omega), g1 78 (by decide) (by omega)]; exact ⟨rfl, rfl, fun _ _ _ => rfl, fun _ _ _ => rfl⟩
  · unfold isP; rw [g2]; omega
  · have hq2 := hq.2
    exact (g9 p (by omega)).2.2.2.2.2
/-- the bits of a new pattern -/
theorem pNw_bits (hr : rOK M) (hx : rfX M) (ht1 : 0 ≤ t ∧ t < M 59 1) (hn : pNw M kd t h n kind own a) (hpt : ∀ j, 0 ≤ j → j < n → isP M (a j)) (hb : b = orS (M 73) a own n.toNat) : (0 ≤ n ∧ n ≤ 3) ∧ nmW own ∧ nmW b ∧ (∀ x, 0 ≤ x → x < 16 → (xand32 (xshr32 own x) 1 = 1 ↔ (kd = 0 ∨ kd = 3) ∧ h = x)) ∧ ∀ x, 0 ≤ x → x < 16 → (xand32 (xshr32 b x) 1 = 1 ↔ ((kd = 0 ∨ kd = 3) ∧ h = x) ∨ ∃ j, 0 ≤ j ∧ j < n ∧ nmb M (a j) x) := by
  obtain ⟨⟨gp, gt, gv, gb, ge⟩, -⟩ := hr
  have hnW : ∀ j : Int, 0 ≤ j → j < n → nmW (M 73 (a j)) := fun j j0 j1 => (hx.2.2 (a j) (hpt j j0 j1)).2
  have z0 : nmW 0 := ⟨by decide, by decide⟩
  have fin : (0 ≤ n ∧ n ≤ 3) → nmW own → (∀ x, 0 ≤ x → x < 16 → (xand32 (xshr32 own x) 1 = 1 ↔ (kd = 0 ∨ kd = 3) ∧ h = x)) → (0 ≤ n ∧ n ≤ 3) ∧ nmW own ∧ nmW b ∧ (∀ x, 0 ≤ x → x < 16 → (xand32 (xshr32 own x) 1 = 1 ↔ (kd = 0 ∨ kd = 3) ∧ h = x)) ∧ ∀ x, 0 ≤ x → x < 16 → (xand32 (xshr32 b x) 1 = 1 ↔ ((kd = 0 ∨ kd = 3) ∧ h = x) ∨ ∃ j, 0 ≤ j ∧ j < n ∧ nmb M (a j) x) := by
    intro n3 hw ho
    obtain ⟨w1, w2⟩ := orS_w (f := M 73) (a := a) hw n.toNat (fun j j0 j1 => hnW j j0 (by omega))
    refine ⟨n3, hw, by rw [hb]; exact w1, ho, fun x x0 x1 => ?_⟩
    rw [hb, w2 x x0 x1, ho x x0 x1]
    constructor
    · rintro (y | ⟨j, j0, j1, y⟩)
      · exact Or.inl y
      · exact Or.inr ⟨j, j0, by omega, y⟩
    · rintro (y | ⟨j, j0, j1, y⟩)
      · exact Or.inl y
      · exact Or.inr ⟨j, j0, by omega, y⟩
  rcases hn with ⟨k1, k2, k3, k4⟩ | ⟨k1, k2, k3, k4, k5⟩ | ⟨k1, k2, k3, k4, k5, k6, k7, k8⟩ | ⟨k1, k2, k3, k4, k5, k6, k7⟩ | ⟨k1, k2, k3, k4, k5, k6, k7⟩
  · rcases k4 with ⟨y1, y2, y3⟩ | ⟨y1, y2, y3⟩
    · refine fin (by omega) (by rw [y3]; exact z0) (fun x x0 x1 => ?_)
      rw [y3]
      exact ⟨fun u => absurd u (bit_0 x0 x1), fun u => by omega⟩
    · refine fin (by omega) (by rw [y3]; exact nmW_sh y1 k3.2) (fun x x0 x1 => ?_)
      rw [y3, bit_sh y1 k3.2 x0 x1]
      exact ⟨fun u => ⟨Or.inl k1, u⟩, fun u => u.2⟩
  · refine fin (by omega) (by rw [k5]; exact z0) (fun x x0 x1 => ?_)
    rw [k5]
    exact ⟨fun u => absurd u (bit_0 x0 x1), fun u => by omega⟩
  · have := (gt.2.2.2 t h (by omega) ht1.2 k2.1 k2.2).1
    refine fin (by omega) (by rw [k6]; exact z0) (fun x x0 x1 => ?_)
    rw [k6]
    exact ⟨fun u => absurd u (bit_0 x0 x1), fun u => by omega⟩
  · refine fin (by omega) (by rw [k5]; exact nmW_sh k2.1 k2.2) (fun x x0 x1 => ?_)
    rw [k5, bit_sh k2.1 k2.2 x0 x1]
    exact ⟨fun u => ⟨Or.inr k1, u⟩, fun u => u.2⟩
  · refine fin (by omega) (by rw [k4]; exact z0) (fun x x0 x1 => ?_)
    rw [k4]
    exact ⟨fun u => absurd u (bit_0 x0 x1), fun u => by omega⟩
/-- all patterns in order -/
theorem pGr_P (hr : rOK M) (hg : pGr M M2 kd t h w b ei n a) (hP : M 59 18 < 300) (ht1 : 0 ≤ t ∧ t < M 59 1) (hh : rg h) (hn : pNw M kd t h n kind own a) (hpt : ∀ j, 0 ≤ j → j < n → isP M (a j)) (hw : w = smW (M 72) a n.toNat) (hw40 : w ≤ 40) : wfP M2 := by
  obtain ⟨⟨gp, gt, gv, gb, ge⟩, -⟩ := hr
  obtain ⟨hc, hP2, h74⟩ := pGr_cng hg gp
  obtain ⟨g1, ⟨g2, g2'⟩, ⟨g3, g4, g5, g6, g7, g8⟩, g9, g10, g11⟩ := hg
  have P0 := gp.1
  have e60 : M2 60 = M 60 := g1 60 (by decide) (by omega)
  have e61 : M2 61 = M 61 := g1 61 (by decide) (by omega)
  have e62 : M2 62 = M 62 := g1 62 (by decide) (by omega)
  have e1 : M2 59 1 = M 59 1 := g2' 1 (by decide) (by decide)
  have old69 : ∀ q, isP M q → M2 69 q = M 69 q := fun q hq => ((hc 0).2.1 q hq).2.1
  have old72 : ∀ q, isP M q → M2 72 q = M 72 q := fun q hq => ((hc 0).2.1 q hq).2.2.2.1
  refine ⟨by rw [g2]; omega, fun p hp => ?_⟩
  rcases (hP2 p).mp hp with hq | hq
  · obtain ⟨w1, w2, w3, w4, w5, w6, w7, w8, w9⟩ := gp.2 p hq
    obtain ⟨c1, c2, c3, c4, c5, c6⟩ := (hc 0).2.1 p hq
    have ep : ∀ j, 0 ≤ j → j < 3 → prt M2 p j = prt M p j := fun j j0 j1 => c6 j j0 j1
    have epc : pct M2 p = pct M p := by unfold pct; rw [e61, c2, c3]
    rw [c1, c2, c3, c4, e1, e60, e62, epc]
    refine ⟨w1, w2, w3, w4, w5, w6, fun z => ?_, fun z => ?_, fun z => ?_⟩
    · obtain ⟨u1, u2, u3, u4⟩ := w7 z
      have hpc := pct_rg gp gt hq z
      refine ⟨u1, u2, fun j j0 j1 => ?_, ?_⟩
      · rw [ep j j0 (by omega), old69 _ (u3 j j0 j1).1]
        exact ⟨(hP2 _).mpr (Or.inl (u3 j j0 j1).1), (u3 j j0 j1).2⟩
      · rw [u4, ep 0 (by omega) (by omega), ep 1 (by omega) (by omega), ep 2 (by omega) (by omega)]
        exact congrArg (fun q => 1 + q) (sm3_c (fun y => (old72 _ (u3 0 (by omega) (by omega)).1).symm) (fun y => (old72 _ (u3 1 (by omega) (by omega)).1).symm) (fun y => (old72 _ (u3 2 (by omega) (by omega)).1).symm))
    · obtain ⟨u1, u2, u3, u4, u5⟩ := w8 z
      rw [ep 0 (by omega) (by omega), old69 _ u2, old72 _ u2]
      exact ⟨u1, (hP2 _).mpr (Or.inl u2), u3, u4, u5⟩
    · obtain ⟨u1, u2⟩ := w9 z
      have v0 := u1 0 (by omega) (by omega)
      have v1 := u1 1 (by omega) (by omega)
      rw [ep 0 (by omega) (by omega), ep 1 (by omega) (by omega), old72 _ v0.1, old72 _ v1.1]
      refine ⟨fun j j0 j1 => ?_, u2⟩
      rw [ep j j0 (by omega), old69 _ (u1 j j0 j1).1]
      exact ⟨(hP2 _).mpr (Or.inl (u1 j j0 j1).1), (u1 j j0 j1).2⟩
  · rw [hq]
    obtain ⟨P, eP⟩ : ∃ P, P = M 59 18 := ⟨_, rfl⟩
    rw [← eP] at g3 g4 g5 g6 g10 hP2 hP P0 ⊢
    have epc : pct M2 P = M 61 (6 * t + h) := by unfold pct; rw [e61, g4, g5]
    have ep : ∀ j, 0 ≤ j → j < n → prt M2 P j = a j := fun j j0 j1 => g10 j j0 j1
    have hw1 : 1 ≤ w := by
      have key : ∀ k : Nat, (k : Int) ≤ n → 1 ≤ smW (M 72) a k := by
        intro k
        induction k with
        | zero => intro _; exact Int.le_refl _
        | succ k ih =>
          intro hk
          have := ih (by omega)
          have := (gp.2 _ (hpt k (by omega) (by omega))).2.1
          show 1 ≤ smW (M 72) a k + M 72 (a k)
          omega
      rw [hw]
      by_cases z : 0 ≤ n
      · exact key _ (by omega)
      · rw [show n.toNat = 0 by omega]; exact Int.le_refl _
    have hpP : ∀ j, 0 ≤ j → j < n → isP M2 (prt M2 P j) ∧ prt M2 P j < P ∧ M2 69 (prt M2 P j) = M 69 (a j) := fun j j0 j1 => by
      rw [ep j j0 j1, old69 _ (hpt j j0 j1)]
      have := (hpt j j0 j1).2
      exact ⟨(hP2 _).mpr (Or.inl (hpt j j0 j1)), by omega, rfl⟩
    rw [g3, g4, g5, g6, e1, e60, e62, epc]
    rcases hn with ⟨k1, k2, k3, k4⟩ | ⟨k1, k2, k3, k4, k5⟩ | ⟨k1, k2, k3, k4, k5, k6, k7, k8⟩ | ⟨k1, k2, k3, k4, k5, k6, k7⟩ | ⟨k1, k2, k3, k4, k5, k6, k7⟩
    · exact ⟨ht1, ⟨hw1, hw40⟩, hh, by omega, fun _ => k3, fun z => by omega, fun z => by omega, fun z => by omega, fun z => by omega⟩
    · exact ⟨ht1, ⟨hw1, hw40⟩, hh, by omega, fun z => by omega, fun _ => k3, fun z => by omega, fun z => by omega, fun z => by omega⟩
    · refine ⟨ht1, ⟨hw1, hw40⟩, hh, by omega, fun z => by omega, fun z => by omega, fun _ => ⟨k2, k3, fun j j0 j1 => ?_, ?_⟩, fun z => by omega, fun z => by omega⟩
      · obtain ⟨y1, y2, y3⟩ := hpP j j0 (by omega)
        exact ⟨y1, y2, by rw [y3, k7 j j0 (by omega)]⟩
      · have n3 := (gt.2.2.2 t h ht1.1 ht1.2 k2.1 k2.2).1
        rw [hw, smW_3 (by omega), k4]
        refine congrArg (fun q => 1 + q) (sm3_c (fun y => ?_) (fun y => ?_) (fun y => ?_))
        · rw [ep 0 (by omega) (by omega), old72 _ (hpt 0 (by omega) (by omega))]
        · rw [ep 1 (by omega) (by omega), old72 _ (hpt 1 (by omega) (by omega))]
        · rw [ep 2 (by omega) (by omega), old72 _ (hpt 2 (by omega) (by omega))]
    · refine ⟨ht1, ⟨hw1, hw40⟩, hh, by omega, fun z => by omega, fun z => by omega, fun z => by omega, fun _ => ?_, fun z => by omega⟩
      obtain ⟨y1, y2, y3⟩ := hpP 0 (by omega) (by omega)
      refine ⟨k2, y1, y2, by rw [y3, k6], ?_⟩
      rw [ep 0 (by omega) (by omega), old72 _ (hpt 0 (by omega) (by omega)), hw, k3]; rfl
    · refine ⟨ht1, ⟨hw1, hw40⟩, hh, by omega, fun z => by omega, fun z => by omega, fun z => by omega, fun z => by omega, fun _ => ⟨fun j j0 j1 => ?_, ?_⟩⟩
      · obtain ⟨y1, y2, y3⟩ := hpP j j0 (by omega)
        refine ⟨y1, y2, ?_⟩
        rw [y3]
        have : j = 0 ∨ j = 1 := by omega
        rcases this with z | z
        · rw [z, k5]
        · rw [z, k6]
      · rw [ep 0 (by omega) (by omega), old72 _ (hpt 0 (by omega) (by omega)), ep 1 (by omega) (by omega), old72 _ (hpt 1 (by omega) (by omega)), hw, k2]
        show 1 + M 72 (a 0) + M 72 (a 1) = _
        omega
end PAT
