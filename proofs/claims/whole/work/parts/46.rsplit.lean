/-! ===== the reference: rows of a node, and their splitting ===== -/
theorem mul_st {i j : Nat} {w : Int} (h : i < j) (hw : 0 ≤ w) : (i : Int) * w + w ≤ (j : Int) * w := by
  have h1 : ((i + 1 : Nat) : Int) * w ≤ (j : Int) * w := Int.mul_le_mul_of_nonneg_right (by omega) hw
  have h2 : ((i + 1 : Nat) : Int) * w = (i : Int) * w + w := by rw [Int.natCast_add, Int.add_mul]; simp
  omega
theorem mul_0 {i : Nat} {w : Int} (hw : 0 ≤ w) : 0 ≤ (i : Int) * w := Int.mul_nonneg (by omega) hw
theorem mul_le {i j : Nat} {w : Int} (h : i ≤ j) (hw : 0 ≤ w) : (i : Int) * w ≤ (j : Int) * w := Int.mul_le_mul_of_nonneg_right (by omega) hw
theorem mul_S {i : Nat} {w : Int} : ((i + 1 : Nat) : Int) * w = (i : Int) * w + w := by rw [Int.natCast_add, Int.add_mul]; simp
/-- a row of the reference is that row -/
def rwI (M : xM) (r w : Int) (q : aR) : Prop := M 83 r = q.1 ∧ (∀ k, 0 ≤ k → k < w → M 86 (M 84 r + k) = q.2.1 k) ∧ (∀ a, 0 ≤ a → a < 16 → M 85 (16 * r + a) = q.2.2 a)
/-- the rows from s on are these -/
def ndR (M : xM) (s w cb : Int) (rows : List aR) : Prop := M 59 31 = s + rows.length ∧ M 59 33 = cb + (rows.length : Int) * w ∧ (∀ i : Nat, i < rows.length → M 84 (s + i) = cb + (i : Int) * w) ∧ ∀ (i : Nat) (q : aR), rows[i]? = some q → rwI M (s + i) w q
/-- what stays when rows from s on are changed -/
def kpS (s cb : Int) (c : Nat) (i : Int) : Prop := ¬ (c = 59 ∧ (i = 31 ∨ i = 33)) ∧ (c = 83 → i < s) ∧ (c = 84 → i < s) ∧ (c = 85 → i < 16 * s) ∧ (c = 86 → i < cb)
def frS (s cb : Int) (M M' : xM) : Prop := ∀ c i, kpS s cb c i → M' c i = M c i
theorem frS_refl {s cb : Int} {M : xM} : frS s cb M M := fun _ _ _ => rfl
theorem frS_trans {s cb : Int} {M M1 M2 : xM} (h : frS s cb M M1) (h2 : frS s cb M1 M2) : frS s cb M M2 := fun c i k => (h2 c i k).trans (h c i k)
theorem frS_up {s cb : Int} {M M1 : xM} {c : Nat} {i v : Int} (h : frS s cb M M1) (hn : ¬ kpS s cb c i) : frS s cb M (xup M1 c i v) := by
  intro c' i' k
  rw [xup_ap, if_neg (fun z => hn (by rw [← z.1, ← z.2]; exact k))]
  exact h c' i' k
theorem frS_c {s cb : Int} {M M1 : xM} (h : frS s cb M M1) (c : Nat) (hc : c < 59 ∨ (59 < c ∧ c < 83) ∨ 86 < c) : M1 c = M c := by
  funext i
  exact h c i ⟨by omega, by omega, by omega, by omega, by omega⟩
theorem frS_o {s cb : Int} {M M1 : xM} (h : frS s cb M M1) (i : Int) (hc : i ≠ 31 ∧ i ≠ 33) : M1 59 i = M 59 i := h 59 i ⟨by omega, by omega, by omega, by omega, by omega⟩
section RSPL
variable {e : yE} {d : Nat} {M D : xM} {s w cb lst at_ : Int} {col : Int → Int}
theorem cpR_ne {f t w : Int} {c : Nat} (h : c ≠ 85) (h2 : c ≠ 86) : cpR M f t w c = M c := by
  funext i
  unfold cpR
  rw [if_neg (fun z => h z.1), if_neg (fun z => h2 z.1)]
theorem cpR_85 {f t w i : Int} : cpR M f t w 85 i = if 16 * t ≤ i ∧ i < 16 * t + 16 then M 85 (i - 16 * t + 16 * f) else M 85 i := by
  unfold cpR
  by_cases h : 16 * t ≤ i ∧ i < 16 * t + 16
  · rw [if_pos ⟨rfl, h⟩, if_pos h]
  · rw [if_neg (fun z => h z.2), if_neg (fun z => absurd z.1 (by decide)), if_neg h]
theorem cpR_86 {f t w i : Int} : cpR M f t w 86 i = if M 84 t ≤ i ∧ i < M 84 t + w then M 86 (M 84 f + (i - M 84 t)) else M 86 i := by
  unfold cpR
  rw [if_neg (fun z => absurd z.1 (by decide))]
  by_cases h : M 84 t ≤ i ∧ i < M 84 t + w
  · rw [if_pos ⟨rfl, h⟩, if_pos h]
  · rw [if_neg (fun z => h z.2), if_neg h]
/-- the copied row -/
theorem rwI_cp {f t : Int} {q : aR} (h : rwI M f w q) (hn : M 83 t = q.1) : rwI (cpR M f t w) t w q := by
  refine ⟨by rw [cpR_ne (by decide) (by decide)]; exact hn, fun k h0 h1 => ?_, fun a h0 h1 => ?_⟩
  · rw [cpR_ne (c := 84) (by decide) (by decide), cpR_86, if_pos (by omega), show M 84 t + k - M 84 t = k by omega]
    exact h.2.1 k h0 h1
  · rw [cpR_85, if_pos (by omega), show 16 * t + a - 16 * t + 16 * f = 16 * f + a by omega]
    exact h.2.2 a h0 h1
theorem rwI_cp_ne {f t r : Int} {q : aR} (h : rwI M r w q) (hn : r ≠ t) (hd : M 84 r + w ≤ M 84 t ∨ M 84 t + w ≤ M 84 r) : rwI (cpR M f t w) r w q := by
  refine ⟨by rw [cpR_ne (by decide) (by decide)]; exact h.1, fun k h0 h1 => ?_, fun a h0 h1 => ?_⟩
  · rw [cpR_ne (c := 84) (by decide) (by decide), cpR_86, if_neg (by omega)]
    exact h.2.1 k h0 h1
  · rw [cpR_85, if_neg (by omega)]
    exact h.2.2 a h0 h1
theorem rwI_83 {r t v : Int} {q : aR} (h : rwI M r w q) (hn : r ≠ t) : rwI (xup M 83 t v) r w q := by
  refine ⟨by rw [xri hn]; exact h.1, fun k h0 h1 => ?_, fun a h0 h1 => ?_⟩
  · rw [xrd (by decide), xrd (by decide)]; exact h.2.1 k h0 h1
  · rw [xrd (by decide)]; exact h.2.2 a h0 h1
theorem rwI_set {r p pl : Int} {q : aR} (h : rwI M r w q) (hat : 0 ≤ at_ ∧ at_ < w) : rwI (xup (stN D 41 M r p pl) 86 (M 84 r + at_) (lF D p)) r w (q.1, uf q.2.1 at_ (lF D p), fun x => if tF D p x = true then pl else q.2.2 x) := by
  refine ⟨by rw [xrd (by decide), stN_ne (by decide)]; exact h.1, fun k h0 h1 => ?_, fun a h0 h1 => ?_⟩
  · have e1 : (xup (stN D 41 M r p pl) 86 (M 84 r + at_) (lF D p)) 84 r = M 84 r := by rw [xrd (by decide), stN_ne (by decide)]
    rw [e1, xup_ap, stN_ne (by decide)]
    show _ = uf q.2.1 at_ (lF D p) k
    unfold uf
    by_cases hk : k = at_
    · rw [if_pos ⟨rfl, by omega⟩, if_pos hk]
    · rw [if_neg (fun z => hk (by have := z.2; omega)), if_neg hk]
      exact h.2.1 k h0 h1
  · rw [xrd (by decide)]
    show stN D 41 M r p pl 85 (16 * r + a) = if tF D p a = true then pl else q.2.2 a
    unfold stN tF
    rw [show 16 * r + a - 16 * r = a by omega]
    by_cases ht : tld D 41 p a = true
    · rw [if_pos ⟨rfl, by omega, ht⟩, if_pos ht]
    · rw [if_neg (fun z => ht z.2.2), if_neg ht]
      exact h.2.2 a h0 h1
theorem rwI_set_ne {r t p pl v : Int} {q : aR} {i : Int} (h : rwI M r w q) (hn : r ≠ t) (hd : i < M 84 r ∨ M 84 r + w ≤ i) : rwI (xup (stN D 41 M t p pl) 86 i v) r w q := by
  refine ⟨by rw [xrd (by decide), stN_ne (by decide)]; exact h.1, fun k h0 h1 => ?_, fun a h0 h1 => ?_⟩
  · have e1 : (xup (stN D 41 M t p pl) 86 i v) 84 r = M 84 r := by rw [xrd (by decide), stN_ne (by decide)]
    rw [e1, xri (by omega), stN_ne (by decide)]
    exact h.2.1 k h0 h1
  · rw [xrd (by decide)]
    unfold stN
    rw [if_neg (by omega)]
    exact h.2.2 a h0 h1
theorem frS_cp {M1 : xM} {f t : Int} (h : frS s cb M M1) (h1 : s ≤ t) (h2 : cb ≤ M1 84 t) : frS s cb M (cpR M1 f t w) := by
  intro c i k
  unfold cpR
  rw [if_neg (fun z => absurd (k.2.2.2.1 z.1) (by omega)), if_neg (fun z => absurd (k.2.2.2.2 z.1) (by omega))]
  exact h c i k
theorem frS_st {M1 : xM} {r p pl v i : Int} (h : frS s cb M M1) (h1 : s ≤ r) (h2 : cb ≤ i) : frS s cb M (xup (stN D 41 M1 r p pl) 86 i v) := by
  refine frS_up (fun c i k => ?_) (fun z => absurd (z.2.2.2.2 rfl) (by omega))
  unfold stN
  rw [if_neg (fun z => absurd (k.2.2.2.1 z.1) (by omega))]
  exact h c i k
/-- all is in order for changing rows -/
def okB (D M : xM) (s w cb : Int) (col : Int → Int) (lst : Int) : Prop := wfP D ∧ (M 68 = D 68 ∧ M 70 = D 70 ∧ M 71 = D 71) ∧ (0 ≤ s ∧ s + 50 ≤ 8000) ∧ (0 ≤ w ∧ w ≤ 300) ∧ (0 ≤ cb ∧ cb + 50 * w ≤ 2300000) ∧ (0 ≤ lst ∧ lst + w ≤ 100000) ∧ (∀ k, 0 ≤ k → k < w → M 87 (lst + k) = col k)
theorem okB_fr {M' : xM} (h : okB D M s w cb col lst) (hf : frS s cb M M') : okB D M' s w cb col lst :=
  ⟨h.1, ⟨by rw [frS_c hf 68 (by omega)]; exact h.2.1.1, by rw [frS_c hf 70 (by omega)]; exact h.2.1.2.1, by rw [frS_c hf 71 (by omega)]; exact h.2.1.2.2⟩, h.2.2.1, h.2.2.2.1, h.2.2.2.2.1, h.2.2.2.2.2.1, fun k h0 h1 => by rw [frS_c hf 87 (by omega)]; exact h.2.2.2.2.2.2 k h0 h1⟩
/-- what stands in a row's columns: ANY or a pattern -/
def okC (D : xM) (w : Int) (q : aR) : Prop := ∀ k, 0 ≤ k → k < w → q.2.1 k = -1 ∨ isP D (q.2.1 k)
theorem okC_rg (hw : wfP D) {q : aR} {k : Int} (h : okC D w q) (h0 : 0 ≤ k) (h1 : k < w) : -1 ≤ q.2.1 k ∧ q.2.1 k < 300 := by
  rcases h k h0 h1 with h | h
  · omega
  · have := hw.1; have := h.1; have := h.2; omega
theorem sp_get {pre post : List aR} {r a b q : aR} {j : Nat} (h : (pre ++ a :: b :: post)[j]? = some q) : (j < pre.length ∧ (pre ++ r :: post)[j]? = some q) ∨ (j = pre.length ∧ q = a) ∨ (j = pre.length + 1 ∧ q = b) ∨ (pre.length + 2 ≤ j ∧ (pre ++ r :: post)[j - 1]? = some q) := by
  by_cases h1 : j < pre.length
  · left
    rw [List.getElem?_append_left h1] at h
    exact ⟨h1, by rw [List.getElem?_append_left h1]; exact h⟩
  · rw [List.getElem?_append_right (by omega)] at h
    right
    by_cases h2 : j = pre.length
    · left
      rw [h2, Nat.sub_self] at h
      simp at h
      exact ⟨h2, h.symm⟩
    · by_cases h3 : j = pre.length + 1
      · right; left
        rw [h3, show pre.length + 1 - pre.length = 1 by omega] at h
        simp at h
        exact ⟨h3, h.symm⟩
      · right; right
        refine ⟨by omega, ?_⟩
        rw [List.getElem?_append_right (by omega)]
        rw [show j - pre.length = (j - pre.length - 2) + 1 + 1 by omega] at h
        rw [show j - 1 - pre.length = (j - pre.length - 2) + 1 by omega]
        simpa using h
/-- a row of EITHER becomes two -/
theorem s_split {Q : xM → Prop} {pre post : List aR} {r : aR} (hs : RSh e) (hb : okB D M s w cb col lst) (hn : ndR M s w cb (pre ++ r :: post)) (hlen : (pre ++ r :: post).length < 24) (hat : 0 ≤ at_ ∧ at_ < w) (hE : 0 ≤ r.2.1 at_ ∧ D 68 (r.2.1 at_) = 4) (hc : ∀ q ∈ pre ++ r :: post, okC D w q)
    (h : ∀ M', ndR M' s w cb (pre ++ spl D col at_ r 0 :: spl D col at_ r 1 :: post) → frS s cb M M' → Q M') : R_split e (d + 2) s (s + pre.length) at_ lst w M Q := by
  obtain ⟨hw, ⟨e68, e70, e71⟩, hsb, hwb, hcb, hlb, hcol⟩ := hb
  obtain ⟨n, hnn⟩ : ∃ n : Nat, n = (pre ++ r :: post).length := ⟨_, rfl⟩
  obtain ⟨n1, n2, n3, n4⟩ := hn
  rw [← hnn] at n1 n2 n3 hlen
  have hpl : pre.length < n := by rw [hnn, List.length_append, List.length_cons]; omega
  have hgr : (pre ++ r :: post)[pre.length]? = some r := by rw [List.getElem?_append_right (Nat.le_refl _), Nat.sub_self]; rfl
  have hpat : isP D (r.2.1 at_) := by
    rcases hc r (by simp) at_ hat.1 hat.2 with h | h
    · omega
    · exact h
  have hpr := hw.2 _ hpat
  have h300 := hw.1
  obtain ⟨hprt, -⟩ := hpr.2.2.2.2.2.2.2.2 hE.2
  refine t_split (t_split_0 hs ⟨by rw [n1]; exact ⟨by omega, by omega⟩, fun _ => s_pushRow hs (by omega) ?_, fun c => absurd (by rw [n1]; omega) c⟩)
  -- the rows move up
  refine for_dn (fun k M' => R_split_30 e (d + 1) (s + pre.length) at_ lst w k M' Q) (fun k M' => ∃ kk : Nat, k = s + kk ∧ pre.length ≤ kk ∧ kk ≤ n ∧ M' 59 31 = s + n + 1 ∧ M' 59 33 = cb + (n : Int) * w + w ∧ (∀ j : Nat, j ≤ n → M' 84 (s + j) = cb + (j : Int) * w) ∧ (∀ (j : Nat) q, (pre ++ r :: post)[j]? = some q → (j ≤ kk → rwI M' (s + j) w q) ∧ (kk ≤ j → rwI M' (s + j + 1) w q)) ∧ frS s cb M M') (s + pre.length) ?_ ?_ (M 59 31) (pshR M 0 w) (by omega) ?_
  · rintro k M' ⟨kk, hk, k1, k2, a31, a33, a84, arw, afr⟩ hlt hgo
    subst hk
    obtain ⟨k0, rfl⟩ : ∃ k0, kk = k0 + 1 := ⟨kk - 1, by omega⟩
    have hx1 : s + ((k0 + 1 : Nat) : Int) - 1 = s + (k0 : Int) := by omega
    have c0 := a84 k0 (by omega)
    have c1 := a84 (k0 + 1) (by omega)
    have hm := mul_st (i := k0) (j := k0 + 1) (w := w) (by omega) hwb.1
    have hm2 := mul_st (i := k0 + 1) (j := 25) (w := w) (by omega) hwb.1
    have hm0 := mul_0 (i := k0) (w := w) hwb.1
    have hm3 : ((25 : Nat) : Int) * w = 25 * w := rfl
    refine t_split_30 hs ⟨⟨⟨by omega, by omega⟩, ⟨by omega, by omega⟩⟩, fun c => absurd c (by omega), fun _ => ⟨by omega, by omega, fun M5 e5 => ?_⟩⟩
    rw [hx1] at e5 ⊢
    have f84 : M5 84 = M' 84 := by rw [e5, xrd (by decide)]
    obtain ⟨q0, hq0⟩ : ∃ q0, (pre ++ r :: post)[k0]? = some q0 := ⟨_, List.getElem?_eq_getElem (by omega)⟩
    have hrow := (arw k0 q0 hq0).1 (by omega)
    have hokq : okC D w q0 := hc q0 (List.mem_of_getElem? hq0)
    refine s_copyRow hs (by omega) (by omega) (by omega) (by omega) (by rw [f84]; omega) (by rw [f84]; omega) (by rw [f84]; omega) (fun k h0 h1 => ?_) ?_
    · rw [f84, e5, xrd (by decide), hrow.2.1 k h0 h1]
      exact okC_rg hw hokq h0 h1
    · rw [show s + ((k0 + 1 : Nat) : Int) + (-1 : Int) = s + ((k0 + 1 : Nat) : Int) - 1 by omega]
      refine hgo _ ⟨k0, by omega, by omega, by omega, ?_, ?_, ?_, ?_, ?_⟩
      · rw [cpR_ne (by decide) (by decide), e5, xrd (by decide)]; exact a31
      · rw [cpR_ne (by decide) (by decide), e5, xrd (by decide)]; exact a33
      · intro j hj
        rw [cpR_ne (by decide) (by decide), f84]; exact a84 j hj
      · intro j q hq
        have hjn : j < n := by
          rcases Nat.lt_or_ge j n with h | h
          · exact h
          · rw [List.getElem?_eq_none (by omega)] at hq; cases hq
        refine ⟨fun hj => ?_, fun hj => ?_⟩
        · have hb1 := a84 j (by omega)
          have hm4 := mul_st (i := j) (j := k0 + 1) (w := w) (by omega) hwb.1
          refine rwI_cp_ne ?_ (by omega) (by rw [f84]; omega)
          rw [e5]
          exact rwI_83 ((arw j q hq).1 (by omega)) (by omega)
        · by_cases hj2 : j = k0
          · subst hj2
            rw [hq0] at hq
            have hq : q0 = q := Option.some.inj hq
            subst hq
            rw [show s + (j : Int) + 1 = s + ((j + 1 : Nat) : Int) by omega]
            refine rwI_cp ?_ ?_
            · rw [e5]; exact rwI_83 hrow (by omega)
            · rw [e5, xrs]; exact hrow.1
          · have hb1 := a84 (j + 1) (by omega)
            have hm4 := mul_st (i := k0 + 1) (j := j + 1) (w := w) (by omega) hwb.1
            rw [show s + ((j + 1 : Nat) : Int) = s + (j : Int) + 1 by omega] at hb1
            refine rwI_cp_ne ?_ (by omega) (by rw [f84]; omega)
            rw [e5]
            exact rwI_83 ((arw j q hq).2 (by omega)) (by omega)
      · refine frS_cp ?_ (by omega) (by rw [f84]; omega)
        rw [e5]
        exact frS_up afr (fun z => absurd (z.2.1 rfl) (by omega))
  · -- the two rows
    rintro M' ⟨kk, hk, k1, k2, a31, a33, a84, arw, afr⟩
    have hkk : kk = pre.length := by omega
    subst hkk
    have c0 := a84 pre.length (by omega)
    have c1 := a84 (pre.length + 1) (by omega)
    have hm := mul_st (i := pre.length) (j := pre.length + 1) (w := w) (by omega) hwb.1
    have hm2 := mul_st (i := pre.length + 1) (j := 25) (w := w) (by omega) hwb.1
    have hm0 := mul_0 (i := pre.length) (w := w) hwb.1
    have hm3 : ((25 : Nat) : Int) * w = 25 * w := rfl
    rw [show s + ((pre.length + 1 : Nat) : Int) = s + (pre.length : Int) + 1 by omega] at c1
    obtain ⟨ra, rb⟩ := arw pre.length r hgr
    have ra := ra (Nat.le_refl _)
    have rb := rb (Nat.le_refl _)
    have hcell : M' 86 (M' 84 (s + pre.length) + at_) = r.2.1 at_ := ra.2.1 at_ hat.1 hat.2
    have g71 : M' 71 = D 71 := by rw [frS_c afr 71 (by omega), e71]
    have g87 : M' 87 (lst + at_) = col at_ := by rw [frS_c afr 87 (by omega)]; exact hcol at_ hat.1 hat.2
    refine t_split_30 hs ⟨⟨⟨by omega, by omega⟩, ⟨by omega, by omega⟩⟩, fun _ => s_cell hs (by omega) (by omega) ?_, fun c => absurd (by omega) c⟩
    rw [hcell, g71, g87, prt_0 (D := D) (p := r.2.1 at_)]
    have hp := hpat.1
    have hp2 := hpat.2
    refine ⟨by omega, by omega, s_setCell hs hw (by omega) (Or.inr (hprt 0 (by omega) (by omega)).1) (by rw [frS_c afr 68 (by omega), e68]) (by rw [frS_c afr 70 (by omega), e70]) g71 (by omega) ?_⟩
    obtain ⟨M3, hM3⟩ : ∃ z : xM, z = xup (stN D 41 M' (s + pre.length) (prt D (r.2.1 at_) 0) (col at_)) 86 (M' 84 (s + pre.length) + at_) (lF D (prt D (r.2.1 at_) 0)) := ⟨_, rfl⟩
    rw [← hM3]
    have afr3 : frS s cb M M3 := by rw [hM3]; exact frS_st afr (by omega) (by omega)
    have q71 : M3 71 = D 71 := by rw [frS_c afr3 71 (by omega), e71]
    have q87 : M3 87 (lst + at_) = col at_ := by rw [frS_c afr3 87 (by omega)]; exact hcol at_ hat.1 hat.2
    have q84 : M3 84 = M' 84 := by rw [hM3, xrd (by decide), stN_ne (by decide)]
    have q59 : M3 59 = M' 59 := by rw [hM3, xrd (by decide), stN_ne (by decide)]
    rw [q71, q87, show D 71 (3 * r.2.1 at_ + 1) = prt D (r.2.1 at_) 1 from rfl]
    refine ⟨by omega, by omega, s_setCell hs hw (by omega) (Or.inr (hprt 1 (by omega) (by omega)).1) (by rw [frS_c afr3 68 (by omega), e68]) (by rw [frS_c afr3 70 (by omega), e70]) q71 (by rw [q84]; omega) ?_⟩
    obtain ⟨M4, hM4⟩ : ∃ z : xM, z = xup (stN D 41 M3 (s + pre.length + 1) (prt D (r.2.1 at_) 1) (col at_)) 86 (M3 84 (s + pre.length + 1) + at_) (lF D (prt D (r.2.1 at_) 1)) := ⟨_, rfl⟩
    rw [← hM4]
    have q59b : M4 59 = M' 59 := by rw [hM4, xrd (by decide), stN_ne (by decide), q59]
    have q84b : M4 84 = M' 84 := by rw [hM4, xrd (by decide), stN_ne (by decide), q84]
    have hlen2 : (pre ++ spl D col at_ r 0 :: spl D col at_ r 1 :: post).length = n + 1 := by
      rw [hnn, List.length_append, List.length_append, List.length_cons, List.length_cons, List.length_cons]; omega
    refine h M4 ⟨?_, ?_, ?_, ?_⟩ ?_
    · rw [q59b, a31, hlen2]; omega
    · rw [q59b, a33, hlen2, mul_S]; omega
    · intro j hj
      rw [q84b]; exact a84 j (by omega)
    · intro j q hq
      have ra3 : rwI M3 (s + pre.length) w (spl D col at_ r 0) := by rw [hM3]; exact rwI_set ra hat
      have rb3 : rwI M3 (s + pre.length + 1) w r := by rw [hM3]; exact rwI_set_ne rb (by omega) (by omega)
      rcases sp_get (r := r) hq with ⟨j1, j2⟩ | ⟨j1, j2⟩ | ⟨j1, j2⟩ | ⟨j1, j2⟩
      · have hj := (arw j q j2).1 (by omega)
        have hb1 := a84 j (by omega)
        have hm4 := mul_st (i := j) (j := pre.length) (w := w) (by omega) hwb.1
        have h3 : rwI M3 (s + j) w q := by rw [hM3]; exact rwI_set_ne hj (by omega) (by omega)
        rw [hM4]
        exact rwI_set_ne h3 (by omega) (by rw [q84]; omega)
      · subst j1; subst j2
        rw [hM4]
        exact rwI_set_ne ra3 (by omega) (by rw [q84]; omega)
      · subst j1; subst j2
        rw [show s + ((pre.length + 1 : Nat) : Int) = s + (pre.length : Int) + 1 by omega, hM4]
        exact rwI_set rb3 hat
      · have hjn : j - 1 < n := by
          rcases Nat.lt_or_ge (j - 1) n with h | h
          · exact h
          · rw [List.getElem?_eq_none (by omega)] at j2; cases j2
        have hj := (arw (j - 1) q j2).2 (by omega)
        rw [show s + ((j - 1 : Nat) : Int) + 1 = s + (j : Int) by omega] at hj
        have hb1 := a84 j (by omega)
        have hm4 := mul_st (i := pre.length + 1) (j := j) (w := w) (by omega) hwb.1
        have h3 : rwI M3 (s + j) w q := by rw [hM3]; exact rwI_set_ne hj (by omega) (by omega)
        rw [hM4]
        exact rwI_set_ne h3 (by omega) (by rw [q84]; omega)
    · rw [hM4]; exact frS_st afr3 (by omega) (by rw [q84]; omega)
  · -- at first
    refine ⟨n, n1, by omega, Nat.le_refl _, ?_, ?_, ?_, ?_, ?_⟩
    · unfold pshR; rw [xrs]; omega
    · unfold pshR; rw [xri (by decide), xrs]; omega
    · intro j hj
      unfold pshR
      rw [xrd (by decide), xrd (by decide)]
      by_cases hjn : j = n
      · subst hjn; rw [n1, xrs]; exact n2
      · rw [xri (by omega), xrd (by decide)]
        exact n3 j (by omega)
    · intro j q hq
      have hjn : j < n := by
        rcases Nat.lt_or_ge j n with h | h
        · exact h
        · rw [List.getElem?_eq_none (by omega)] at hq; cases hq
      refine ⟨fun _ => ?_, fun hj => absurd hj (by omega)⟩
      obtain ⟨b1, b2, b3⟩ := n4 j q hq
      have e84 : (pshR M 0 w) 84 (s + j) = M 84 (s + j) := by unfold pshR; rw [xrd (by decide), xrd (by decide), xri (by omega), xrd (by decide)]
      refine ⟨?_, ?_, ?_⟩
      · unfold pshR; rw [xrd (by decide), xrd (by decide), xrd (by decide), xri (by omega)]; exact b1
      · intro k h0 h1
        rw [e84]
        unfold pshR; rw [xrd (by decide), xrd (by decide), xrd (by decide), xrd (by decide)]; exact b2 k h0 h1
      · intro a h0 h1
        unfold pshR; rw [xrd (by decide), xrd (by decide), xrd (by decide), xrd (by decide)]; exact b3 a h0 h1
    · unfold pshR
      refine frS_up (frS_up (frS_up (frS_up frS_refl ?_) ?_) ?_) ?_
      · exact fun z => absurd (z.2.1 rfl) (by omega)
      · exact fun z => absurd (z.2.2.1 rfl) (by omega)
      · exact fun z => z.1 ⟨rfl, Or.inr rfl⟩
      · exact fun z => z.1 ⟨rfl, Or.inl rfl⟩
end RSPL
