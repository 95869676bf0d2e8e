/-! ===== the reference tells values: plain ones, and those of a failure ===== -/
/-- how large what a maker makes of plain values is -/
def mSl (D : xM) (b : Int) : Nat → Int → Int → Int
  | 0, x, _ => x
  | n + 1, x, k => if D 63 (D 62 (3 * b + k)) = 0 then 0 else mSl D b n (x + D 63 (D 62 (3 * b + k))) (k + 1)
def mSz (D : xM) (t m : Int) : Int := mSl D (6 * t + m) (D 61 (6 * t + m)).toNat 1 0
/-- the least maker that reaches the plain size -/
def fm (D : xM) (t : Int) : Nat → Int → Int
  | 0, k => k
  | n + 1, k => if mSz D t k = D 63 t then k else fm D t n (k + 1)
def pMk (D : xM) (t : Int) : Int := fm D t 6 0
def flS (f : Int → List Int) : Nat → Int → List Int
  | 0, _ => []
  | j + 1, k => f k ++ flS f j (k + 1)
/-- a plain value's text -/
def ptx (D : xM) : Nat → Int → List Int
  | 0, _ => []
  | n + 1, t => if t = 0 then [0] else pMk D t :: flS (fun k => ptx D n (D 62 (3 * (6 * t + pMk D t) + k))) (D 61 (6 * t + pMk D t)).toNat 0
/-- what stands at a place of a failure -/
def tx (D E : xM) : Nat → Int → List Int
  | 0, _ => []
  | n + 1, q => if E 89 q = 0 then ptx D 9 (E 88 q) else E 90 q :: (if E 88 q ≤ 0 then [] else flS (fun k => if E 91 q = 0 then tx D E n (E 92 q + k) else ptx D 9 (D 62 (3 * (6 * E 88 q + E 90 q) + k))) (D 61 (6 * E 88 q + E 90 q)).toNat 0)
def put1 (M : xM) (x : Int) : xM := if M 59 50 < 4001 then xup (xup M 95 (M 59 50) x) 59 50 (M 59 50 + 1) else M
def putL (M : xM) : List Int → xM
  | [] => M
  | x :: l => putL (put1 M x) l
theorem put1_ne {M : xM} {x : Int} {c : Nat} {i : Int} (h : c ≠ 95) (h2 : ¬ (c = 59 ∧ i = 50)) : put1 M x c i = M c i := by
  unfold put1
  split
  · rw [xup_ap, if_neg h2, xup_ap, if_neg (fun z => h z.1)]
  · rfl
theorem put1_rg {M : xM} {x : Int} (h : 0 ≤ M 59 50 ∧ M 59 50 ≤ 4001) : 0 ≤ put1 M x 59 50 ∧ put1 M x 59 50 ≤ 4001 := by
  unfold put1
  split
  · rw [xrs]; omega
  · exact h
theorem putL_ne {c : Nat} {i : Int} (h : c ≠ 95) (h2 : ¬ (c = 59 ∧ i = 50)) : ∀ (l : List Int) (M : xM), putL M l c i = M c i := by
  intro l
  induction l with
  | nil => intro M; rfl
  | cons x l ih => intro M; show putL (put1 M x) l c i = _; rw [ih, put1_ne h h2]
theorem putL_rg : ∀ (l : List Int) (M : xM), (0 ≤ M 59 50 ∧ M 59 50 ≤ 4001) → 0 ≤ putL M l 59 50 ∧ putL M l 59 50 ≤ 4001 := by
  intro l
  induction l with
  | nil => intro M h; exact h
  | cons x l ih => intro M h; exact ih _ (put1_rg h)
theorem putL_app : ∀ (a : List Int) (b : List Int) (M : xM), putL M (a ++ b) = putL (putL M a) b := by
  intro a
  induction a with
  | nil => intro b M; rfl
  | cons x a ih => intro b M; exact ih b (put1 M x)
theorem putL_full : ∀ (l : List Int) (M : xM), 4001 ≤ M 59 50 → putL M l = M := by
  intro l
  induction l with
  | nil => intro M _; rfl
  | cons x l ih =>
    intro M h
    have : put1 M x = M := by unfold put1; rw [if_neg (by omega)]
    show putL (put1 M x) l = M
    rw [this, ih M h]
/-- types that have a plain value; all parts have one -/
def wfV (D : xM) : Prop := (∀ t, 0 ≤ t → t < D 59 1 → 0 ≤ D 63 t ∧ D 63 t ≤ 100000) ∧ (∀ t, 0 < t → t < D 59 1 → 0 < D 63 t → ∃ m, (0 ≤ m ∧ m < D 60 t) ∧ mSz D t m = D 63 t) ∧ ∀ t k j, 0 ≤ t → t < D 59 1 → 0 ≤ k → k < D 60 t → 0 ≤ j → j < D 61 (6 * t + k) → 0 < D 63 (D 62 (3 * (6 * t + k) + j))
theorem mSl_ge {D : xM} {b : Int} : ∀ (n : Nat) (x k : Int), (∀ j, k ≤ j → j < k + n → 0 ≤ D 63 (D 62 (3 * b + j))) → mSl D b n x k ≠ 0 → x ≤ mSl D b n x k ∧ ∀ j, k ≤ j → j < k + n → x + D 63 (D 62 (3 * b + j)) ≤ mSl D b n x k := by
  intro n
  induction n with
  | zero => intro x k _ _; exact ⟨Int.le_refl _, fun j h1 h2 => by omega⟩
  | succ n ih =>
    intro x k hp hne
    unfold mSl at hne ⊢
    by_cases h : D 63 (D 62 (3 * b + k)) = 0
    · rw [if_pos h] at hne; exact absurd rfl hne
    · rw [if_neg h] at hne ⊢
      have hk := hp k (by omega) (by omega)
      obtain ⟨a, c⟩ := ih _ (k + 1) (fun j h1 h2 => hp j (by omega) (by omega)) hne
      refine ⟨by omega, fun j h1 h2 => ?_⟩
      by_cases hj : j = k
      · subst hj; omega
      · have := c j (by omega) (by omega); omega
/-- how many types have smaller plain values -/
def rk (D : xM) (v : Int) : Nat → Nat
  | 0 => 0
  | n + 1 => rk D v n + (if D 63 n < v then 1 else 0)
theorem rk_le {D : xM} {v : Int} : ∀ n, rk D v n ≤ n := by
  intro n
  induction n with
  | zero => exact Nat.le_refl _
  | succ n ih => unfold rk; split <;> omega
theorem rk_mono {D : xM} {v v' : Int} (h : v ≤ v') : ∀ n, rk D v n ≤ rk D v' n := by
  intro n
  induction n with
  | zero => exact Nat.le_refl _
  | succ n ih => unfold rk; split <;> split <;> omega
theorem rk_lt {D : xM} {v v' : Int} (h : v < v') : ∀ (n i : Nat), i < n → D 63 i = v → rk D v n < rk D v' n := by
  intro n
  induction n with
  | zero => intro i hi; omega
  | succ n ih =>
    intro i hi hv
    unfold rk
    by_cases hin : i = n
    · subst hin
      rw [if_neg (by omega), if_pos (by omega)]
      have := rk_mono (D := D) (v := v) (v' := v') (by omega) i
      omega
    · have := ih i (by omega) hv
      by_cases c : D 63 (n : Int) < v
      · rw [if_pos c, if_pos (by omega)]; omega
      · rw [if_neg c]; omega
theorem fm_is {D : xM} {t : Int} : ∀ (n : Nat) (k m : Int), k ≤ m → m < k + n → mSz D t m = D 63 t → (k ≤ fm D t n k ∧ fm D t n k ≤ m) ∧ mSz D t (fm D t n k) = D 63 t ∧ ∀ j, k ≤ j → j < fm D t n k → mSz D t j ≠ D 63 t := by
  intro n
  induction n with
  | zero => intro k m h1 h2; omega
  | succ n ih =>
    intro k m h1 h2 h3
    unfold fm
    by_cases h : mSz D t k = D 63 t
    · rw [if_pos h]; exact ⟨by omega, h, fun j a b => by omega⟩
    · rw [if_neg h]
      have : k ≠ m := fun z => h (by rw [z]; exact h3)
      obtain ⟨a, b, c⟩ := ih (k + 1) m (by omega) (by omega) h3
      refine ⟨by omega, b, fun j j1 j2 => ?_⟩
      by_cases hj : j = k
      · subst hj; exact h
      · exact c j (by omega) j2
section RTEL
variable {e : yE} {D E : xM}
theorem pMk_is (ht : wfT D) (hv : wfV D) {t : Int} (h0 : 0 < t) (h1 : t < D 59 1) (hp : 0 < D 63 t) : (0 ≤ pMk D t ∧ pMk D t < D 60 t) ∧ mSz D t (pMk D t) = D 63 t ∧ ∀ j, 0 ≤ j → j < pMk D t → mSz D t j ≠ D 63 t := by
  obtain ⟨m, hm, he⟩ := hv.2.1 t h0 h1 hp
  have := ht.2.1 t (by omega) (by have := ht.1; omega)
  obtain ⟨a, b, c⟩ := fm_is (D := D) (t := t) 6 0 m hm.1 (by omega) he
  exact ⟨⟨a.1, by unfold pMk; omega⟩, b, c⟩
theorem pMk_pt (ht : wfT D) (hv : wfV D) {t : Int} (h0 : 0 < t) (h1 : t < D 59 1) (hp : 0 < D 63 t) : (0 ≤ D 61 (6 * t + pMk D t) ∧ D 61 (6 * t + pMk D t) ≤ 3) ∧ ∀ j, 0 ≤ j → j < D 61 (6 * t + pMk D t) → (0 ≤ D 62 (3 * (6 * t + pMk D t) + j) ∧ D 62 (3 * (6 * t + pMk D t) + j) < D 59 1) ∧ D 63 (D 62 (3 * (6 * t + pMk D t) + j)) < D 63 t := by
  obtain ⟨a, b, c⟩ := pMk_is ht hv h0 h1 hp
  obtain ⟨p, q⟩ := ht.2.2.2 t _ (by omega) h1 a.1 a.2
  refine ⟨p, fun j j0 j1 => ⟨q j j0 j1, ?_⟩⟩
  unfold mSz at b
  have hpos := hp
  have := (mSl_ge (D := D) (b := 6 * t + pMk D t) (D 61 (6 * t + pMk D t)).toNat 1 0 (fun j h2 h3 => ?_) (by omega)).2 j j0 (by omega)
  · omega
  · have h4 := q j h2 (by omega)
    have := (hv.1 _ h4.1 h4.2).1
    omega
theorem pMk_rk (ht : wfT D) (hv : wfV D) {t : Int} (h0 : 0 < t) (h1 : t < D 59 1) (hp : 0 < D 63 t) {j : Int} (j0 : 0 ≤ j) (j1 : j < D 61 (6 * t + pMk D t)) : rk D (D 63 (D 62 (3 * (6 * t + pMk D t) + j))) 8 < rk D (D 63 t) 8 := by
  obtain ⟨-, q⟩ := pMk_pt ht hv h0 h1 hp
  obtain ⟨a, b⟩ := q j j0 j1
  have h8 := ht.1
  refine rk_lt b 8 (D 62 (3 * (6 * t + pMk D t) + j)).toNat (by omega) ?_
  rw [show (((D 62 (3 * (6 * t + pMk D t) + j)).toNat : Nat) : Int) = D 62 (3 * (6 * t + pMk D t) + j) by omega]
theorem s_put {d : Nat} {M : xM} {x : Int} {Q : xM → Prop} (hs : RSh e) (h50 : 0 ≤ M 59 50 ∧ M 59 50 ≤ 4001) (h : Q (put1 M x)) : R_put e (d + 1) x M Q := by
  unfold put1 at h
  refine t_put (t_put_0 hs ⟨⟨by omega, by omega⟩, fun c => ?_, fun c => ⟨by omega, fun M1 e1 M2 e2 => ?_⟩⟩)
  · rw [if_neg (by omega)] at h; exact h
  · rw [if_pos (by omega)] at h
    have f : M1 59 50 = M 59 50 := by rw [e1, xrd (by decide)]
    rw [e2, f, e1]; exact h
theorem s_madeSize {d : Nat} {M : xM} {t m : Int} {Q : Int → xM → Prop} (hs : RSh e) (hb : 0 ≤ 6 * t + m ∧ 6 * t + m < 48) (hc : 0 ≤ M 61 (6 * t + m) ∧ M 61 (6 * t + m) ≤ 3) (hp : ∀ j, 0 ≤ j → j < M 61 (6 * t + m) → (0 ≤ M 62 (3 * (6 * t + m) + j) ∧ M 62 (3 * (6 * t + m) + j) < 8) ∧ rg (M 63 (M 62 (3 * (6 * t + m) + j)))) (h : Q (mSz M t m) M) : R_madeSize e (d + 1) t m M Q := by
  refine t_madeSize (t_madeSize_0 hs ?_)
  have key : ∀ (n : Nat) (x k : Int), 0 ≤ k → k + (n : Int) = M 61 (6 * t + m) → Q (mSl M (6 * t + m) n x k) M → R_madeSize_5 e d t m x k M Q := by
    intro n
    induction n with
    | zero =>
      intro x k hk hn h
      exact t_madeSize_5 hs ⟨hb, ⟨⟨by omega, by omega⟩, ⟨by omega, by omega⟩⟩, fun _ => h, fun c => absurd (by omega) c⟩
    | succ n ih =>
      intro x k hk hn h
      obtain ⟨a, b⟩ := hp k hk (by omega)
      unfold mSl at h
      refine t_madeSize_5 hs ⟨hb, ⟨⟨by omega, by omega⟩, ⟨by omega, by omega⟩⟩, fun c => absurd c (by omega), fun _ => ⟨by omega, a, b, fun c => ?_, fun c => ?_⟩⟩
      · rw [if_neg c] at h; exact ih _ (k + 1) (by omega) (by omega) h
      · rw [if_pos (Classical.not_not.mp c)] at h; exact h
  exact key (M 61 (6 * t + m)).toNat 1 0 (by omega) (by omega) h
/-- the cells that telling reads -/
def tlD (D M : xM) : Prop := M 61 = D 61 ∧ M 62 = D 62 ∧ M 63 = D 63
theorem tlD_put {M : xM} {l : List Int} (h : tlD D M) : tlD D (putL M l) :=
  ⟨by funext i; rw [putL_ne (by decide) (by omega), h.1], by funext i; rw [putL_ne (by decide) (by omega), h.2.1], by funext i; rw [putL_ne (by decide) (by omega), h.2.2]⟩
theorem tlD_put1 {M : xM} {x : Int} (h : tlD D M) : tlD D (put1 M x) := tlD_put (l := [x]) h
theorem mSz_D {M : xM} {t m : Int} (h : tlD D M) : mSz M t m = mSz D t m := by
  have : ∀ (n : Nat) (b x k : Int), mSl M b n x k = mSl D b n x k := by
    intro n
    induction n with
    | zero => intro b x k; rfl
    | succ n ih => intro b x k; unfold mSl; rw [h.2.1, h.2.2, ih]
  unfold mSz
  rw [this, h.1]
theorem s_tellPlain (hs : RSh e) (ht : wfT D) (hv : wfV D) : ∀ (n : Nat) (d : Nat) (t : Int) (M : xM) (Q : xM → Prop), rk D (D 63 t) 8 < n → (0 ≤ t ∧ t < D 59 1) → 0 < D 63 t → tlD D M → (0 ≤ M 59 50 ∧ M 59 50 ≤ 4001) → Q (putL M (ptx D n t)) → R_tellPlain e (d + n + 1) t M Q := by
  intro n
  induction n with
  | zero => intro d t M Q h; omega
  | succ n ih =>
    intro d t M Q hr htt hpt hD h50 h
    have h8 := ht.1
    refine t_tellPlain (t_tellPlain_0 hs ⟨⟨by omega, by omega⟩, fun c => ?_, fun c => ?_⟩)
    · unfold ptx at h
      rw [if_neg c] at h
      obtain ⟨a1, a2, a3⟩ := pMk_is ht hv (t := t) (by omega) htt.2 hpt
      obtain ⟨b1, b2⟩ := pMk_pt ht hv (t := t) (by omega) htt.2 hpt
      have h6 := ht.2.1 t htt.1 (by omega)
      obtain ⟨m, hm⟩ : ∃ m, m = pMk D t := ⟨_, rfl⟩
      rw [← hm] at a1 a2 a3 b1 b2 h
      -- the search
      have srch : ∀ (j : Nat) (k : Int), 0 ≤ k → k + (j : Int) = m → R_tellPlain_12 e (d + n + 1) t k M Q := by
        intro j
        induction j with
        | zero =>
          intro k k0 k1
          have hk : k = m := by omega
          subst hk
          refine t_tellPlain_12 hs (s_madeSize hs (by omega) (by rw [hD.1]; exact b1) (fun j j0 j1 => ?_) ?_)
          · rw [hD.1] at j1
            rw [hD.2.1, hD.2.2]
            have := (b2 j j0 j1).1
            have := (hv.1 _ this.1 this.2)
            exact ⟨by omega, ⟨by omega, by omega⟩⟩
          · rw [mSz_D hD, hD.2.2, a2]
            have hvt := hv.1 t htt.1 htt.2
            refine ⟨by omega, ⟨⟨by omega, by omega⟩, ⟨by omega, by omega⟩⟩, fun _ => s_put hs h50 ?_, fun z => absurd rfl z⟩
            -- its parts
            have prts : ∀ (j : Nat) (i : Int) (M' : xM), 0 ≤ i → i + (j : Int) = D 61 (6 * t + k) → tlD D M' → (0 ≤ M' 59 50 ∧ M' 59 50 ≤ 4001) → Q (putL M' (flS (fun k' => ptx D n (D 62 (3 * (6 * t + k) + k'))) j i)) → R_tellPlain_40 e (d + n + 1) t k i M' Q := by
              intro j
              induction j with
              | zero =>
                intro i M' i0 i1 hD' h50' h'
                refine t_tellPlain_40 hs (s_countOf hs (by omega) ?_)
                rw [hD'.1]
                exact ⟨⟨⟨by omega, by omega⟩, ⟨by omega, by omega⟩⟩, fun _ => h', fun z => absurd (by omega) z⟩
              | succ j ihj =>
                intro i M' i0 i1 hD' h50' h'
                refine t_tellPlain_40 hs (s_countOf hs (by omega) ?_)
                rw [hD'.1]
                refine ⟨⟨⟨by omega, by omega⟩, ⟨by omega, by omega⟩⟩, fun z => absurd z (by omega), fun _ => ⟨⟨by omega, by omega⟩, fun z => ?_, fun z => s_partType hs (by omega) ?_⟩⟩
                · rw [putL_full _ _ z] at h'; exact h'
                · rw [hD'.2.1]
                  have hb := (b2 i i0 (by omega)).1
                  have hrk := pMk_rk ht hv (t := t) (by omega) htt.2 hpt (j := i) i0 (by rw [← hm]; omega)
                  rw [← hm] at hrk
                  refine ih d _ M' _ (by omega) hb (hv.2.2 t k i htt.1 htt.2 a1.1 a1.2 i0 (by omega)) hD' h50' ?_
                  refine ihj (i + 1) _ (by omega) (by omega) (tlD_put hD') (putL_rg _ _ h50') ?_
                  unfold flS at h'
                  rw [putL_app] at h'
                  exact h'
            exact prts (D 61 (6 * t + k)).toNat 0 _ (by omega) (by omega) (tlD_put1 hD) (put1_rg h50) h
        | succ j ihj =>
          intro k k0 k1
          have hk6 := ht.2.2.2 t k htt.1 htt.2 k0 (by omega)
          refine t_tellPlain_12 hs (s_madeSize hs (by omega) (by rw [hD.1]; exact hk6.1) (fun j j0 j1 => ?_) ?_)
          · rw [hD.1] at j1
            rw [hD.2.1, hD.2.2]
            have := hk6.2 j j0 j1
            have := (hv.1 _ this.1 this.2)
            exact ⟨by omega, ⟨by omega, by omega⟩⟩
          · rw [mSz_D hD, hD.2.2]
            have hvt := hv.1 t htt.1 htt.2
            refine ⟨by omega, ⟨?_, ⟨by omega, by omega⟩⟩, fun z => absurd z (a3 k k0 (by omega)), fun _ => ihj (k + 1) (by omega) (by omega)⟩
            -- its size is in range
            have hr : ∀ (n : Nat) (x i : Int), 0 ≤ i → i + (n : Int) ≤ D 61 (6 * t + k) → 0 ≤ x → x ≤ 1000000 - 100000 * n → 0 ≤ mSl D (6 * t + k) n x i ∧ mSl D (6 * t + k) n x i ≤ 1000000 := by
              intro n
              induction n with
              | zero => intro x i i0 i1 x0 x1; show 0 ≤ x ∧ x ≤ 1000000; omega
              | succ n ihn =>
                intro x i i0 i1 x0 x1
                unfold mSl
                split
                · omega
                · have hb := hk6.2 i i0 (by omega)
                  have := hv.1 _ hb.1 hb.2
                  exact ihn _ (i + 1) (by omega) (by omega) (by omega) (by omega)
            have := hr (D 61 (6 * t + k)).toNat 1 0 (by omega) (by omega) (by omega) (by omega)
            unfold mSz
            exact ⟨by omega, by omega⟩
      exact srch m.toNat 0 (by omega) (by omega)
    · have c : t = 0 := Classical.not_not.mp c
      unfold ptx at h
      rw [if_pos c] at h
      exact s_put hs h50 h
/-- what is known of places is in order -/
def okE (D : xM) (np : Int) (E : xM) : Prop := ∀ q, 0 ≤ q → q < np → (0 ≤ E 88 q ∧ E 88 q < D 59 1 ∧ 0 < D 63 (E 88 q)) ∧ (E 89 q = 0 ∨ E 89 q = 1) ∧ (E 89 q = 1 → (E 91 q = 0 ∨ E 91 q = 1) ∧ (0 < E 88 q → (0 ≤ E 90 q ∧ E 90 q < D 60 (E 88 q)) ∧ (E 91 q = 0 → q < E 92 q ∧ E 92 q + D 61 (6 * E 88 q + E 90 q) ≤ np)))
theorem plc_put {M : xM} {np : Int} {l : List Int} (h : plc M np E) : plc (putL M l) np E := by
  intro q h0 h1
  rw [putL_ne (by decide) (by omega), putL_ne (by decide) (by omega), putL_ne (by decide) (by omega), putL_ne (by decide) (by omega), putL_ne (by decide) (by omega)]
  exact h q h0 h1
theorem s_tell {np : Int} (hs : RSh e) (ht : wfT D) (hv : wfV D) (hE : okE D np E) (hnp : np ≤ 1000) : ∀ (n : Nat) (d : Nat) (q : Int) (M : xM) (Q : xM → Prop), np - q < n → (0 ≤ q ∧ q < np) → tlD D M → plc M np E → (0 ≤ M 59 50 ∧ M 59 50 ≤ 4001) → Q (putL M (tx D E n q)) → R_tell e (d + n + 12) q M Q := by
  intro n
  induction n with
  | zero => intro d q M Q h1 h2; omega
  | succ n ih =>
    intro d q M Q hr hq hD hp h50 h
    have h8 := ht.1
    obtain ⟨p1, p2, p3⟩ := hp q hq.1 hq.2
    obtain ⟨o1, o2, o3⟩ := hE q hq.1 hq.2
    have hd : d + (n + 1) + 11 = d + n + 12 := by omega
    refine t_tell (t_tell_0 hs ⟨by omega, by omega, by omega, by rw [p2]; rcases o2 with z | z <;> (rw [z]; exact ⟨by omega, by omega⟩), fun c => ?_, fun c => ?_⟩)
    · rw [p2] at c
      have c1 : E 89 q = 1 := by omega
      obtain ⟨q1, q2, q3⟩ := p3 c1
      obtain ⟨r1, r2⟩ := o3 c1
      unfold tx at h
      rw [if_neg (by omega)] at h
      rw [p1, q1]
      refine s_put hs h50 ?_
      rw [hd]
      have h := (show Q (putL (put1 M (E 90 q)) (if E 88 q ≤ 0 then [] else flS (fun k => if E 91 q = 0 then tx D E n (E 92 q + k) else ptx D 9 (D 62 (3 * (6 * E 88 q + E 90 q) + k))) (D 61 (6 * E 88 q + E 90 q)).toNat 0)) from h)
      by_cases c2 : E 88 q ≤ 0
      · rw [if_pos c2] at h
        exact t_tell_37 hs ⟨⟨by omega, by omega⟩, fun _ => h, fun z => absurd c2 z⟩
      · rw [if_neg c2] at h
        obtain ⟨s1, s2⟩ := r2 (by omega)
        have h6 := ht.2.1 (E 88 q) (by omega) (by omega)
        obtain ⟨u1, u2⟩ := ht.2.2.2 (E 88 q) (E 90 q) (by omega) o1.2.1 s1.1 s1.2
        have prts : ∀ (j : Nat) (i : Int) (M' : xM), 0 ≤ i → i + (j : Int) = D 61 (6 * E 88 q + E 90 q) → tlD D M' → plc M' np E → (0 ≤ M' 59 50 ∧ M' 59 50 ≤ 4001) → Q (putL M' (flS (fun k => if E 91 q = 0 then tx D E n (E 92 q + k) else ptx D 9 (D 62 (3 * (6 * E 88 q + E 90 q) + k))) j i)) → R_tell_37 e (d + n + 12) q (E 88 q) (E 90 q) i M' Q := by
          intro j
          induction j with
          | zero =>
            intro i M' i0 i1 hD' hp' h50' h'
            refine t_tell_37 hs ⟨⟨by omega, by omega⟩, fun z => absurd z c2, fun _ => s_countOf hs (by omega) ?_⟩
            rw [hD'.1]
            exact ⟨⟨⟨by omega, by omega⟩, ⟨by omega, by omega⟩⟩, fun _ => h', fun z => absurd (by omega) z⟩
          | succ j ihj =>
            intro i M' i0 i1 hD' hp' h50' h'
            refine t_tell_37 hs ⟨⟨by omega, by omega⟩, fun z => absurd z c2, fun _ => s_countOf hs (by omega) ?_⟩
            rw [hD'.1]
            refine ⟨⟨⟨by omega, by omega⟩, ⟨by omega, by omega⟩⟩, fun z => absurd z (by omega), fun _ => ⟨⟨by omega, by omega⟩, fun z => ?_, fun z => ?_⟩⟩
            · rw [putL_full _ _ z] at h'; exact h'
            · obtain ⟨-, -, p3'⟩ := hp' q hq.1 hq.2
              obtain ⟨-, q2', q3'⟩ := p3' c1
              unfold flS at h'
              rw [putL_app] at h'
              rw [q2', q3']
              refine ⟨by omega, by rcases r1 with z | z <;> (rw [z]; exact ⟨by omega, by omega⟩), fun c3 => ⟨by omega, ?_⟩, fun c3 => s_partType hs (by omega) ?_⟩
              · rw [if_pos c3] at h'
                have hs2 := s2 c3
                refine ih d _ M' _ (by omega) (by omega) hD' hp' h50' ?_
                exact ihj (i + 1) _ (by omega) (by omega) (tlD_put hD') (plc_put hp') (putL_rg _ _ h50') h'
              · rw [if_neg c3] at h'
                rw [hD'.2.1]
                have hu := u2 i i0 (by omega)
                have hk := rk_le (D := D) (v := D 63 (D 62 (3 * (6 * E 88 q + E 90 q) + i))) 8
                have := s_tellPlain hs ht hv 9 (d + n + 2) (D 62 (3 * (6 * E 88 q + E 90 q) + i)) M' (fun M6 => R_tell_37 e (d + n + 12) q (E 88 q) (E 90 q) (i + 1) M6 Q) (by omega) hu (hv.2.2 (E 88 q) (E 90 q) i o1.1 o1.2.1 s1.1 s1.2 i0 (by omega)) hD' h50' ?_
                · exact this
                · exact ihj (i + 1) _ (by omega) (by omega) (tlD_put hD') (plc_put hp') (putL_rg _ _ h50') h'
        exact prts (D 61 (6 * E 88 q + E 90 q)).toNat 0 _ (by omega) (by omega) (tlD_put1 hD) (plc_put (l := [E 90 q]) hp) (put1_rg h50) h
    · rw [p2] at c
      have c : E 89 q = 0 := Classical.not_not.mp c
      unfold tx at h
      rw [if_pos c] at h
      rw [p1]
      have hk := rk_le (D := D) (v := D 63 (E 88 q)) 8
      have := s_tellPlain hs ht hv 9 (d + n + 2) (E 88 q) M Q (by omega) ⟨o1.1, o1.2.1⟩ o1.2.2 hD h50 h
      rw [hd]
      exact this
end RTEL
