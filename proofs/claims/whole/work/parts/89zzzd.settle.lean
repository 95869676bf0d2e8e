/-! ===== the class: sizes settle ===== -/
def rkF (s : Int → Int) (v : Int) : Nat → Nat
  | 0 => 0
  | n + 1 => rkF s v n + (if s ((n : Int) + 1) < v then 1 else 0)
section CST
variable {D : xM} {f f' s : Int → Int} {t v q : Int}
theorem rkF_le : ∀ n, rkF s v n ≤ n := by
  intro n
  induction n with
  | zero => exact Nat.le_refl _
  | succ n ih =>
    show rkF s v n + (if s ((n : Int) + 1) < v then 1 else 0) ≤ n + 1
    split <;> omega
theorem rkF_lt {w p : Int} (h : v ≤ w) : ∀ n : Nat, rkF s v n ≤ rkF s w n ∧ (1 ≤ p → p ≤ (n : Int) → s p = v → v < w → rkF s v n < rkF s w n) := by
  intro n
  induction n with
  | zero => exact ⟨Nat.le_refl _, fun _ _ => by omega⟩
  | succ n ih =>
    obtain ⟨i1, i2⟩ := ih
    have st : (if s ((n : Int) + 1) < v then 1 else 0) ≤ (if s ((n : Int) + 1) < w then 1 else 0) := by
      by_cases z : s ((n : Int) + 1) < v
      · rw [if_pos z, if_pos (show s ((n : Int) + 1) < w by omega)]; exact Nat.le_refl _
      · rw [if_neg z]; exact Nat.zero_le _
    refine ⟨?_, fun p1 p2 p3 p4 => ?_⟩
    · show rkF s v n + (if s ((n : Int) + 1) < v then 1 else 0) ≤ rkF s w n + (if s ((n : Int) + 1) < w then 1 else 0)
      exact Nat.add_le_add i1 st
    · show rkF s v n + (if s ((n : Int) + 1) < v then 1 else 0) < rkF s w n + (if s ((n : Int) + 1) < w then 1 else 0)
      by_cases z : p = (n : Int) + 1
      · rw [← z, p3, if_neg (show ¬ v < v by omega), if_pos p4]; omega
      · have := i2 p1 (by omega) p3 p4
        exact Nat.add_lt_add_of_lt_of_le this st
/-- the class's sizes stay in order -/
theorem bst_szI (h8 : D 59 1 ≤ 8) (ho : okM D) (hI : szI D f) (t0 : 0 < t) (t1 : t < D 59 1) (hb : bst D f t (D 60 t) v q) (h1 : f' t = v) (h2 : ∀ u, u ≠ t → f' u = f u) : szI D f' := by
  have same : v = f t → szI D f' := fun hv => by
    have : f' = f := funext fun u => by
      by_cases z : u = t
      · rw [z, h1, hv]
      · exact h2 u z
    rw [this]; exact hI
  have ft := hI.2.1 t (by omega) (by omega)
  rcases hb with ⟨g1, g2⟩ | ⟨g1, ⟨⟨q0, q1⟩, g2, g3⟩, g4⟩
  · refine same ?_
    refine Classical.byContradiction (fun z => ?_)
    obtain ⟨k, ⟨k0, k1⟩, m0, m1⟩ := hI.2.2.2.1 t t0 t1 (by omega)
    have := g2 k k0 k1; omega
  · by_cases z : f t = 0
    · exact (szI_up h8 ho hI t0 t1 q0 q1 g2.symm g1 (Or.inl z) h1 h2).1
    · obtain ⟨k, ⟨k0, k1⟩, m0, m1⟩ := hI.2.2.2.1 t t0 t1 (by omega)
      have := g4 k k0 k1 m0
      by_cases y : v = f t
      · exact same y
      · exact (szI_up h8 ho hI t0 t1 q0 q1 g2.symm g1 (Or.inr (by omega)) h1 h2).1
/-- when all smaller sizes are there, this one comes -/
theorem bst_is (h8 : D 59 1 ≤ 8) (ho : okM D) (hI : szI D f) (hS : szI D s) (hL : solL D s) (t0 : 0 < t) (t1 : t < D 59 1) (hb : bst D f t (D 60 t) v q) (hp : ∀ p, 0 ≤ p → p < D 59 1 → s p < s t → f p = s p) : v = s t := by
  have hI' : szI D (fun u => if u = t then v else f u) := bst_szI h8 ho hI t0 t1 hb (if_pos rfl) (fun u hu => if_neg hu)
  have le := sol_le (f := fun u => if u = t then v else f u) (g := s) ho hI'.2.1 h8 hI'.1 hS.1 hI'.2.2.2.1 hL v.toNat t (by omega) t1
  have e : (if t = t then v else f t) = v := if_pos rfl
  rw [e] at le
  have s0 := hS.2.1 t (by omega) (by omega)
  by_cases z : s t = 0
  · rcases hb with ⟨g1, -⟩ | ⟨g1, -⟩
    · omega
    · have := le g1 (by omega); omega
  · obtain ⟨k, ⟨k0, k1⟩, m0, m1⟩ := hS.2.2.2.1 t t0 t1 (by omega)
    obtain ⟨n3, np⟩ := ho t k (by omega) t1 k0 k1
    have hin := mz_in n3 (fun j j0 j1 => hS.2.1 _ (np j j0 j1).1 (by have := (np j j0 j1).2; omega)) m0
    have hlt := (mz_lt n3 hin).2
    have eq : ∀ j, 0 ≤ j → j < D 61 (6 * t + k) → f (D 62 (3 * (6 * t + k) + j)) = s (D 62 (3 * (6 * t + k) + j)) := fun j j0 j1 => hp _ (np j j0 j1).1 (np j j0 j1).2 (by have := hlt j j0 j1; omega)
    have m2 := mz_mono (f := s) (g := f) n3 (fun j j0 j1 => ⟨hin j j0 j1, by rw [eq j j0 j1]; exact hin j j0 j1, by rw [eq j j0 j1]; exact Int.le_refl _⟩)
    rcases hb with ⟨g1, g2⟩ | ⟨g1, -, g4⟩
    · have := g2 k k0 k1; omega
    · have := g4 k k0 k1 m2.1
      have := le g1 (by omega)
      omega
/-- the types of the first r ranks are settled -/
def stl (D : xM) (s f : Int → Int) (r : Nat) : Prop := ∀ u, 0 < u → u < D 59 1 → rkF s (s u) 7 < r → f u = s u
theorem stl_p {r : Nat} (h8 : D 59 1 ≤ 8) (hI : szI D f) (hS : szI D s) (h : stl D s f r) (t0 : 0 < t) (t1 : t < D 59 1) (hr : rkF s (s t) 7 < r + 1) : ∀ p, 0 ≤ p → p < D 59 1 → s p < s t → f p = s p := by
  intro p p0 p1 hp
  by_cases z : p = 0
  · rw [z, hI.1, hS.1]
  · have := (rkF_lt (s := s) (v := s p) (w := s t) (p := p) (by omega) 7).2 (by omega) (by omega) rfl hp
    exact h p (by omega) p1 (by omega)
variable {e : yE} {d : Nat} {M : xM}
/-- the first maker that reaches the size -/
def fst1 (D : xM) (s : Int → Int) (t q : Int) : Prop := (0 ≤ q ∧ q < D 60 t) ∧ mz D s t q = s t ∧ ∀ k, 0 ≤ k → k < q → mz D s t k ≠ s t
theorem s_round {r : Nat} {x1 : Int} {M0 : xM} {Q : xM → Prop} (hs : CSh e) (hwt : wfT D) (hS : szI D s) (hL : solL D s) (hY : tCl M0 D) (hI0 : szI D (M0 6)) (h0 : stl D s (M0 6) r)
    (h : ∀ M', (∀ c, c ≠ 6 → c ≠ 7 → M' c = M0 c) → szI D (M' 6) → stl D s (M' 6) (r + 1) → M' 7 0 = M0 7 0 → (8 ≤ r → ∀ t, 0 < t → t < D 59 1 → 0 < s t → fst1 D s t (M' 7 t)) → C_Ty_settlePlain_2 e (d + 6) (x1 + 1) M' Q) : C_Ty_settlePlain_10 e (d + 6) x1 1 M0 Q := by
  have h8 := hwt.1
  have ho : okM D := hwt.2.2.2
  have e2 : M0 2 0 = D 59 1 := hY.1
  have key : ∀ (j x : Nat) (M : xM), (x : Int) + j = D 59 1 → 1 ≤ x → (∀ c, c ≠ 6 → c ≠ 7 → M c = M0 c) → szI D (M 6) → stl D s (M 6) r → (∀ u, 0 < u → u < (x : Int) → rkF s (s u) 7 < r + 1 → M 6 u = s u) → M 7 0 = M0 7 0 → (8 ≤ r → ∀ t, 0 < t → t < (x : Int) → 0 < s t → fst1 D s t (M 7 t)) → C_Ty_settlePlain_10 e (d + 6) x1 x M Q := by
    intro j
    induction j with
    | zero =>
      intro x M hx x0 b1 b2 b3 b4 b5 b6
      refine c_Ty_settlePlain_10 hs ?_
      rw [b1 2 (by decide) (by decide), e2]
      exact ⟨⟨⟨by omega, by omega⟩, ⟨by omega, by omega⟩⟩, fun _ => h M b1 b2 (fun u u0 u1 => b4 u u0 (by omega)) b5 (fun hr t t0 t1 => b6 hr t t0 (by omega)), fun z => absurd (by omega) z⟩
    | succ j ih =>
      intro x M hx x0 b1 b2 b3 b4 b5 b6
      refine c_Ty_settlePlain_10 hs ?_
      rw [b1 2 (by decide) (by decide), e2]
      refine ⟨⟨⟨by omega, by omega⟩, ⟨by omega, by omega⟩⟩, fun z => absurd z (by omega), fun _ => s_plainOfC (D := D) (d := d) hs hwt (tCl_cg (b1 2 (by decide) (by decide)) (b1 3 (by decide) (by decide)) (b1 4 (by decide) (by decide)) (b1 5 (by decide) (by decide)) hY) (by omega) (by omega) (szI_b b2) (fun M' c1 c2 c3 c4 => ?_)⟩
      have n2 : szI D (M' 6) := bst_szI h8.2 ho b2 (by omega) (by omega) c4 rfl c2
      have vx : rkF s (s x) 7 < r + 1 → M' 6 x = s x := fun hr => bst_is h8.2 ho b2 hS hL (by omega) (by omega) c4 (stl_p h8.2 b2 hS b3 (by omega) (by omega) hr)
      refine ih (x + 1) M' (by omega) (by omega) (fun c y1 y2 => by rw [c1 c y1 y2, b1 c y1 y2]) n2 (fun u u0 u1 hu => ?_) (fun u u0 u1 hu => ?_) (by rw [c3 0 (by omega)]; exact b5) (fun hr t t0 t1 hst => ?_)
      · by_cases z : u = x
        · rw [z] at hu ⊢; exact vx (by omega)
        · rw [c2 u z]; exact b3 u u0 u1 hu
      · by_cases z : u = x
        · rw [z] at hu ⊢; exact vx hu
        · rw [c2 u z]; exact b4 u u0 (by omega) hu
      · by_cases z : t = x
        · rw [z] at hst ⊢
          have hv := vx (by have := rkF_le (s := s) (v := s x) 7; omega)
          have all : ∀ p, 0 ≤ p → p < D 59 1 → M 6 p = s p := fun p p0 p1 => by
            by_cases y : p = 0
            · rw [y, b2.1, hS.1]
            · exact b3 p (by omega) p1 (by have := rkF_le (s := s) (v := s p) 7; omega)
          have em : ∀ k, 0 ≤ k → k < D 60 x → mz D (M 6) x k = mz D s x k := fun k k0 k1 => by
            obtain ⟨n3, np⟩ := ho x k (by omega) (by omega) k0 k1
            have nn : ∀ j, 0 ≤ j → j < D 61 (6 * x + k) → 0 ≤ s (D 62 (3 * (6 * x + k) + j)) := fun j j0 j1 => hS.2.1 _ (np j j0 j1).1 (by have := (np j j0 j1).2; omega)
            have eq : ∀ j, 0 ≤ j → j < D 61 (6 * x + k) → M 6 (D 62 (3 * (6 * x + k) + j)) = s (D 62 (3 * (6 * x + k) + j)) := fun j j0 j1 => all _ (np j j0 j1).1 (np j j0 j1).2
            unfold mz
            rw [sm3_c (g := s) (y0 := D 62 (3 * (6 * x + k) + 0)) (y1 := D 62 (3 * (6 * x + k) + 1)) (y2 := D 62 (3 * (6 * x + k) + 2)) (fun y => eq 0 (by omega) y) (fun y => eq 1 (by omega) y) (fun y => eq 2 (by omega) y)]
            have c0 : (0 < D 61 (6 * x + k) ∧ M 6 (D 62 (3 * (6 * x + k) + 0)) = 0) ↔ (0 < D 61 (6 * x + k) ∧ s (D 62 (3 * (6 * x + k) + 0)) = 0) := ⟨fun y => ⟨y.1, by rw [← eq 0 (by omega) y.1]; exact y.2⟩, fun y => ⟨y.1, by rw [eq 0 (by omega) y.1]; exact y.2⟩⟩
            have c1' : (1 < D 61 (6 * x + k) ∧ M 6 (D 62 (3 * (6 * x + k) + 1)) = 0) ↔ (1 < D 61 (6 * x + k) ∧ s (D 62 (3 * (6 * x + k) + 1)) = 0) := ⟨fun y => ⟨y.1, by rw [← eq 1 (by omega) y.1]; exact y.2⟩, fun y => ⟨y.1, by rw [eq 1 (by omega) y.1]; exact y.2⟩⟩
            have c2' : (2 < D 61 (6 * x + k) ∧ M 6 (D 62 (3 * (6 * x + k) + 2)) = 0) ↔ (2 < D 61 (6 * x + k) ∧ s (D 62 (3 * (6 * x + k) + 2)) = 0) := ⟨fun y => ⟨y.1, by rw [← eq 2 (by omega) y.1]; exact y.2⟩, fun y => ⟨y.1, by rw [eq 2 (by omega) y.1]; exact y.2⟩⟩
            simp only [c0, c1', c2']
          rcases c4 with ⟨g1, -⟩ | ⟨g1, ⟨⟨q0, q1⟩, g2, g3⟩, -⟩
          · omega
          · refine ⟨⟨q0, q1⟩, by rw [← em _ q0 q1, g2]; exact hv, fun k k0 k1 => ?_⟩
            rw [← em k k0 (by omega), ← hv]; exact g3 k k0 k1
        · rw [c3 t z]; exact b6 hr t t0 (by omega) hst
  exact key (D 59 1 - 1).toNat 1 M0 (by omega) (Nat.le_refl _) (fun _ _ _ => rfl) hI0 h0 (fun u u0 u1 => by omega) rfl (fun _ t t0 t1 => by omega)
/-- nine rounds -/
theorem s_settle {M0 : xM} {Q : xM → Prop} (hs : CSh e) (hwt : wfT D) (hS : szI D s) (hL : solL D s) (hY : tCl M0 D) (hI0 : szI D (M0 6))
    (h : ∀ M', (∀ c, c ≠ 6 → c ≠ 7 → M' c = M0 c) → (∀ u, 0 ≤ u → u < 8 → M' 6 u = s u) → M' 7 0 = M0 7 0 → (∀ t, 0 < t → t < D 59 1 → 0 < s t → fst1 D s t (M' 7 t)) → Q M') : C_Ty_settlePlain e (d + 7) M0 Q := by
  have h8 := hwt.1
  have key : ∀ (j r : Nat) (M : xM), r + j = 8 → (∀ c, c ≠ 6 → c ≠ 7 → M c = M0 c) → szI D (M 6) → stl D s (M 6) r → M 7 0 = M0 7 0 → C_Ty_settlePlain_2 e (d + 6) r M Q := by
    intro j
    induction j with
    | zero =>
      intro r M hr b1 b2 b3 b4
      refine c_Ty_settlePlain_2 hs ⟨⟨by omega, by omega⟩, fun z => absurd z (by omega), fun _ => ?_⟩
      refine s_round (s := s) (r := r) hs hwt hS hL (tCl_cg (b1 2 (by decide) (by decide)) (b1 3 (by decide) (by decide)) (b1 4 (by decide) (by decide)) (b1 5 (by decide) (by decide)) hY) b2 b3 (fun M' c1 c2 c3 c4 c5 => ?_)
      refine c_Ty_settlePlain_2 hs ⟨⟨by omega, by omega⟩, fun _ => h M' (fun c y1 y2 => by rw [c1 c y1 y2, b1 c y1 y2]) (fun u u0 u1 => ?_) (by rw [c4]; exact b4) (c5 (by omega)), fun z => absurd (by omega) z⟩
      by_cases z : u = 0
      · rw [z, c2.1, hS.1]
      · by_cases y : u < D 59 1
        · exact c3 u (by omega) y (by have := rkF_le (s := s) (v := s u) 7; omega)
        · rw [c2.2.2.2.2 u (by omega) u1, hS.2.2.2.2 u (by omega) u1]
    | succ j ih =>
      intro r M hr b1 b2 b3 b4
      refine c_Ty_settlePlain_2 hs ⟨⟨by omega, by omega⟩, fun z => absurd z (by omega), fun _ => ?_⟩
      refine s_round (s := s) (r := r) hs hwt hS hL (tCl_cg (b1 2 (by decide) (by decide)) (b1 3 (by decide) (by decide)) (b1 4 (by decide) (by decide)) (b1 5 (by decide) (by decide)) hY) b2 b3 (fun M' c1 c2 c3 c4 c5 => ?_)
      exact ih (r + 1) M' (by omega) (fun c y1 y2 => by rw [c1 c y1 y2, b1 c y1 y2]) c2 c3 (by rw [c4]; exact b4)
  exact c_Ty_settlePlain (c_Ty_settlePlain_0 hs (key 8 0 M0 rfl (fun _ _ _ => rfl) hI0 (fun u u0 u1 hu => by omega) rfl))
end CST
