/-! ===== the class: small questions ===== -/
section CSI
variable {e : yE} {d k : Nat} {M : xM}
theorem s_isMatchC {x : Int} {Q : Int → xM → Prop} (hs : CSh e) (hx : rg x) (h4 : rg (M 1 4)) (h : Q (bI (0 ≤ x ∧ x < M 1 4)) M) : C_Mf_isMatch e (d + 1) x M Q := by
  refine c_Mf_isMatch (c_Mf_isMatch_0 hs ⟨hx, fun z => ?_, fun z => ⟨⟨hx, h4⟩, fun y => ?_, fun y => ?_⟩⟩)
  · rw [bI_f (by omega)] at h; exact h
  · rw [bI_f (by omega)] at h; exact h
  · rw [bI_t (by omega)] at h; exact h
theorem s_isNameC {x : Int} {Q : Int → xM → Prop} (hs : CSh e) (hx : rg x) (h : Q (bI (0 ≤ x ∧ x < 16)) M) : C_Mf_isName e (d + 1) x M Q := by
  refine c_Mf_isName (c_Mf_isName_0 hs ⟨hx, fun z => ?_, fun z => ⟨hx, fun y => ?_, fun y => ?_⟩⟩)
  · rw [bI_f (by omega)] at h; exact h
  · rw [bI_f (by omega)] at h; exact h
  · rw [bI_t (by omega)] at h; exact h
theorem s_isTypeC {x : Int} {Q : Int → xM → Prop} (hs : CSh e) (hx : rg x) (h4 : rg (M 2 0)) (h : Q (bI (0 ≤ x ∧ x < M 2 0)) M) : C_Ty_isType e (d + 1) x M Q := by
  refine c_Ty_isType (c_Ty_isType_0 hs ⟨hx, fun z => ?_, fun z => ⟨⟨hx, h4⟩, fun y => ?_, fun y => ?_⟩⟩)
  · rw [bI_f (by omega)] at h; exact h
  · rw [bI_f (by omega)] at h; exact h
  · rw [bI_t (by omega)] at h; exact h
theorem s_isMakerC {x y : Int} {Q : Int → xM → Prop} (hs : CSh e) (hx : rg x) (hy : rg y) (h4 : 0 ≤ M 2 0 ∧ M 2 0 ≤ 8) (h3 : ∀ t, 0 ≤ t → t < M 2 0 → rg (M 3 t)) (h : Q (bI (0 ≤ x ∧ x < M 2 0 ∧ 0 ≤ y ∧ y < M 3 x)) M) : C_Ty_isMaker e (d + 2) x y M Q := by
  refine c_Ty_isMaker (c_Ty_isMaker_0 hs (s_isTypeC hs hx ⟨by omega, by omega⟩ ⟨bI_rg, fun z => ?_, fun z => ⟨hy, fun w => ?_, fun w => ?_⟩⟩))
  · rw [bI_0] at z
    rw [bI_f (by omega)] at h; exact h
  · rw [bI_f (by omega)] at h; exact h
  · have z' : 0 ≤ x ∧ x < M 2 0 := Classical.not_not.mp (fun u => z (bI_0.mpr u))
    refine ⟨by omega, ⟨hy, h3 x z'.1 z'.2⟩, fun u => ?_, fun u => ?_⟩
    · rw [bI_f (by omega)] at h; exact h
    · rw [bI_t (by omega)] at h; exact h
theorem s_giveC {a b c : Int} {Q : xM → Prop} (hs : CSh e) (h : ∀ M', (∀ j, j ≠ 58 → M' j = M j) → (∀ q, 0 ≤ q → q < 3 → M' 58 q = pk3 q a b c) → Q M') : C_Mf_give e (d + 1) a b c M Q := by
  refine c_Mf_give (c_Mf_give_0 hs (fun M1 e1 M2 e2 M3 e3 => h M3 (fun j hj => by rw [e3, xrd hj, e2, xrd hj, e1, xrd hj]) (fun q q0 q1 => ?_)))
  have : q = 0 ∨ q = 1 ∨ q = 2 := by omega
  rcases this with z | z | z <;> subst z
  · rw [e3, xri (by decide), e2, xri (by decide), e1, xrs]; rfl
  · rw [e3, xri (by decide), e2, xrs]; rfl
  · rw [e3, xrs]; rfl
theorem s_hasC {x : Int} {Q : Int → xM → Prop} (hs : CSh e) (hk : XSh5 k e) (hx : rg x) (h4 : rg (M k 1)) (h : Q (bI (0 ≤ x ∧ x < M k 1)) M) : C_Tm_has e (d + 1) k x M Q := by
  refine c_Tm_has (c_Tm_has_0 hs hk ⟨hx, fun z => ?_, fun z => ⟨⟨hx, h4⟩, fun y => ?_, fun y => ?_⟩⟩)
  · rw [bI_f (by omega)] at h; exact h
  · rw [bI_f (by omega)] at h; exact h
  · rw [bI_t (by omega)] at h; exact h
theorem s_isOfC {x t : Int} {Q : Int → xM → Prop} (hs : CSh e) (hk : XSh5 k e) (hx : rg x) (ht : rg t) (h4 : 0 ≤ M k 1 ∧ M k 1 ≤ 300) (h3 : ∀ i, 0 ≤ i → i < M k 1 → rg (M (k + 2) i)) (h : Q (bI (0 ≤ x ∧ x < M k 1 ∧ M (k + 2) x = t)) M) : C_Tm_isOf e (d + 2) k x t M Q := by
  refine c_Tm_isOf (c_Tm_isOf_0 hs hk (s_hasC hs hk hx ⟨by omega, by omega⟩ ⟨bI_rg, fun z => ?_, fun z => ?_⟩))
  · rw [bI_0] at z
    rw [bI_f (by omega)] at h; exact h
  · have z' : 0 ≤ x ∧ x < M k 1 := Classical.not_not.mp (fun u => z (bI_0.mpr u))
    refine ⟨by omega, ⟨h3 x z'.1 z'.2, ht⟩, fun u => ?_, fun u => ?_⟩
    · rw [bI_f (fun w => u w.2.2)] at h; exact h
    · rw [bI_t ⟨z'.1, z'.2, Classical.not_not.mp u⟩] at h; exact h
theorem s_areOfC {a1 n1 a2 n2 : Nat} {n : Int} {Q : Int → xM → Prop} (hs : CSh e) (hk : XSh5 k e) (ha1 : yA e a1 1 n1) (ha2 : yA e a2 1 n2) (hn : 0 ≤ n ∧ n ≤ 3) (hn1 : n1 = 3) (hn2 : n2 = 3) (hr : ∀ q, 0 ≤ q → q < n → rg (M a2 q) ∧ rg (M a1 q)) (h4 : 0 ≤ M k 1 ∧ M k 1 ≤ 300) (h3 : ∀ i, 0 ≤ i → i < M k 1 → rg (M (k + 2) i))
    (h1 : (∀ q, 0 ≤ q → q < n → (0 ≤ M a2 q ∧ M a2 q < M k 1) ∧ M (k + 2) (M a2 q) = M a1 q) → Q 1 M) (h0 : ¬ (∀ q, 0 ≤ q → q < n → (0 ≤ M a2 q ∧ M a2 q < M k 1) ∧ M (k + 2) (M a2 q) = M a1 q) → Q 0 M) : C_Tm_areOf e (d + 3) k a1 n1 a2 n2 n M Q := by
  have key : ∀ (j x : Nat), (x : Int) + j = n → (∀ q, 0 ≤ q → q < (x : Int) → (0 ≤ M a2 q ∧ M a2 q < M k 1) ∧ M (k + 2) (M a2 q) = M a1 q) → C_Tm_areOf_3 e (d + 2) k a1 n1 a2 n2 n x M Q := by
    intro j
    induction j with
    | zero => intro x hx g; exact c_Tm_areOf_3 hs hk ha1 ha2 ⟨⟨⟨by omega, by omega⟩, ⟨by omega, by omega⟩⟩, fun _ => h1 (fun q q0 q1 => g q q0 (by omega)), fun z => absurd (by omega) z⟩
    | succ j ih =>
      intro x hx g
      obtain ⟨r2, r1⟩ := hr x (by omega) (by omega)
      refine c_Tm_areOf_3 hs hk ha1 ha2 ⟨⟨⟨by omega, by omega⟩, ⟨by omega, by omega⟩⟩, fun z => absurd z (by omega), fun _ => ⟨by omega, by omega, s_isOfC hs hk r2 r1 h4 h3 ⟨bI_rg, fun z => ih (x + 1) (by omega) (fun q q0 q1 => ?_), fun z => h0 (fun w => ?_)⟩⟩⟩
      · have z' := Classical.not_not.mp (fun u => z (bI_0.mpr u))
        by_cases w : q = x
        · rw [w]; exact ⟨⟨z'.1, z'.2.1⟩, z'.2.2⟩
        · exact g q q0 (by omega)
      · have z' := bI_0.mp (Classical.not_not.mp z)
        have := w x (by omega) (by omega)
        exact z' ⟨this.1.1, this.1.2, this.2⟩
  exact c_Tm_areOf (c_Tm_areOf_0 hs hk ha1 ha2 (key n.toNat 0 (by omega) (fun q q0 q1 => by omega)))
end CSI
