/-! ===== the reference: a branch of a test ===== -/
def cl (at_ m k : Int) : Int := if k < at_ then 0 else if k < at_ + m then k - at_ else m
theorem cl_lo {at_ m k : Int} (h : k ≤ at_) (hm : 0 ≤ m) : cl at_ m k = 0 := by unfold cl; split <;> (try split) <;> omega
theorem cl_in {at_ m k : Int} (h : at_ ≤ k) (h2 : k ≤ at_ + m) : cl at_ m k = k - at_ := by unfold cl; split <;> (try split) <;> omega
theorem cl_hi {at_ m k : Int} (h : at_ + m ≤ k) (hm : 0 ≤ m) : cl at_ m k = m := by unfold cl; split <;> (try split) <;> omega
section RBR
variable {e : yE} {d : Nat} {D : xM} {s en w cb cb' lst at_ key o m lh np q ty : Int} {col : Int → Int}
/-- what the list of places' making leaves -/
def fr1 (lh np : Int) (M M' : xM) : Prop := ∀ c i, ¬ (c = 59 ∧ i = 42) → (c = 87 → i < lh) → (c = 88 ∨ c = 89 ∨ c = 93 → i < np) → M' c i = M c i
theorem fr1_c {M M' : xM} (h : fr1 lh np M M') (c : Nat) (hc : c ≠ 59 ∧ c ≠ 87 ∧ c ≠ 88 ∧ c ≠ 89 ∧ c ≠ 93) : M' c = M c := by
  funext i
  exact h c i (by omega) (by omega) (by omega)
theorem s_br112 {M : xM} {Q : xM → Prop} (hs : RSh e) (hat : 0 ≤ at_ ∧ at_ < w) (hw : w ≤ 300) (hm : 0 ≤ m ∧ m ≤ 3) (hl : 0 ≤ lst ∧ lst + w ≤ lh) (hl2 : lh + (w - 1 + m) ≤ 100000) (hnp : 0 ≤ np ∧ np + m ≤ 1000) (hq : 0 ≤ q ∧ q < np)
    (hcol : ∀ k, 0 ≤ k → k < w → M 87 (lst + k) = col k) (h62 : M 62 = D 62) (h42 : M 59 42 = np) (h44 : M 59 44 = 0 ∨ M 59 44 = 1) (hv : M 59 44 = 1 → 0 ≤ M 93 q ∧ M 93 q < 300) (hty : 0 < m → (0 ≤ ty ∧ ty < 8) ∧ (0 ≤ key ∧ key < 6))
    (h : ∀ M', fr1 lh np M M' → M' 59 42 = np + m → (∀ j, 0 ≤ j → j < w - 1 + m → M' 87 (lh + j) = bCol col np at_ m j) → (∀ j, 0 ≤ j → j < m → M' 88 (np + j) = D 62 (3 * (6 * ty + key) + j) ∧ M' 89 (np + j) = 0 ∧ M' 93 (np + j) = (if M 59 44 = 0 then -1 else M 66 (3 * M 93 q + j))) → R_branch_254 e (d + 1) en at_ key o w m lh np s M' Q) :
    R_branch_112 e (d + 1) s en at_ key o lst w q ty m lh np 0 M Q := by
  refine for_up (fun k M' => R_branch_112 e (d + 1) s en at_ key o lst w q ty m lh np k M' Q) (fun k M' => 0 ≤ k ∧ M' 59 42 = np + cl at_ m k ∧ (∀ j, 0 ≤ j → j < k → M' 87 (lh + j) = bCol col np at_ m j) ∧ (∀ j, 0 ≤ j → j < cl at_ m k → M' 88 (np + j) = D 62 (3 * (6 * ty + key) + j) ∧ M' 89 (np + j) = 0 ∧ M' 93 (np + j) = (if M 59 44 = 0 then -1 else M 66 (3 * M 93 q + j))) ∧ fr1 lh np M M') (w - 1 + m) ?_ ?_ 0 M (by omega) ⟨by omega, ?_, fun j h0 h1 => by omega, fun j h0 h1 => by rw [cl_lo (by omega) hm.1] at h1; omega, fun _ _ _ _ _ => rfl⟩
  · rintro k M' ⟨k0, a42, a87, anew, afr⟩ hlt hgo
    have g44 : M' 59 44 = M 59 44 := afr 59 44 (by omega) (by omega) (by omega)
    have g93 : M' 93 q = M 93 q := afr 93 q (by omega) (by omega) (by omega)
    have g66 : M' 66 = M 66 := fr1_c afr 66 (by omega)
    have g62 : M' 62 = D 62 := by rw [fr1_c afr 62 (by omega)]; exact h62
    have gcol : ∀ k, 0 ≤ k → k < w → M' 87 (lst + k) = col k := fun k h0 h1 => by rw [afr 87 _ (by omega) (by omega) (by omega)]; exact hcol k h0 h1
    -- a place that stays
    have stay : ∀ k', 0 ≤ k' → k' < w → bCol col np at_ m k = col k' → cl at_ m (k + 1) = cl at_ m k → R_branch_112 e (d + 1) s en at_ key o lst w q ty m lh np (k + 1) (xup M' 87 (lh + k) (M' 87 (lst + k'))) Q := by
      intro k' h0 h1 h2 h3
      refine hgo _ ⟨by omega, ?_, ?_, ?_, ?_⟩
      · rw [xrd (by decide), h3]; exact a42
      · intro j j0 j1
        by_cases hj : j = k
        · rw [hj, xrs, gcol k' h0 h1, h2]
        · rw [xri (by omega)]; exact a87 j j0 (by omega)
      · intro j j0 j1
        rw [xrd (by decide), xrd (by decide), xrd (by decide)]
        rw [h3] at j1
        exact anew j j0 j1
      · intro c i h1 h2 h3
        rw [xup_ap, if_neg (fun z => by have := h2 z.1; omega)]
        exact afr c i h1 h2 h3
    refine t_branch_112 hs ⟨⟨⟨by omega, by omega⟩, ⟨by omega, by omega⟩⟩, fun c => absurd c (by omega), fun _ => ⟨⟨⟨by omega, by omega⟩, ⟨by omega, by omega⟩⟩, fun c => ?_, fun c => ⟨⟨⟨by omega, by omega⟩, ⟨by omega, by omega⟩⟩, fun c2 => ?_, fun c2 => ?_⟩⟩⟩
    · refine t_branch_144 hs ⟨⟨by omega, by omega⟩, fun _ => t_branch_181 hs ⟨⟨by omega, by omega⟩, fun _ => ⟨⟨⟨by omega, by omega⟩, ⟨by omega, by omega⟩⟩, fun z => absurd z (by omega), fun _ => ⟨by omega, by omega, fun M2 e2 => ?_⟩⟩, fun z => absurd rfl z⟩, fun z => absurd rfl z⟩
      rw [e2]
      exact stay k (by omega) (by omega) (by unfold bCol; rw [if_pos c]) (by rw [cl_lo (by omega) hm.1, cl_lo (by omega) hm.1])
    · refine t_branch_144 hs ⟨⟨by omega, by omega⟩, fun _ => t_branch_181 hs ⟨⟨by omega, by omega⟩, fun _ => ⟨⟨⟨by omega, by omega⟩, ⟨by omega, by omega⟩⟩, fun _ => ⟨by omega, by omega, fun M2 e2 => ?_⟩, fun z => absurd (by omega) z⟩, fun z => absurd rfl z⟩, fun z => absurd rfl z⟩
      rw [e2]
      exact stay (k - m + 1) (by omega) (by omega) (by unfold bCol; rw [if_neg (by omega), if_neg (by omega)]) (by rw [cl_hi (by omega) hm.1, cl_hi (by omega) hm.1])
    · -- a new place
      have hk := hty (by omega)
      have hcl : cl at_ m k = k - at_ := cl_in (by omega) (by omega)
      have hcl1 : cl at_ m (k + 1) = k - at_ + 1 := by rw [cl_in (by omega) (by omega)]; omega
      have hnew : ∀ v, v = (if M 59 44 = 0 then -1 else M 66 (3 * M 93 q + (k - at_))) → R_branch_181 e (d + 1) s en at_ key o lst w q ty m lh np k 1 v M' Q := by
        intro v hv2
        refine t_branch_181 hs ⟨⟨by omega, by omega⟩, fun z => absurd z (by omega), fun _ => s_partType hs (by omega) (s_newPlace hs (by omega) ?_)⟩
        refine ⟨by omega, fun M7 e7 => ?_⟩
        have b59 : M7 59 42 = np + (k - at_ + 1) := by rw [e7, xrd (by decide)]; unfold nwP; rw [xrs]; omega
        refine hgo M7 ⟨by omega, by rw [hcl1]; exact b59, ?_, ?_, ?_⟩
        · intro j j0 j1
          by_cases hj : j = k
          · rw [hj, e7, xrs, a42, hcl]; unfold bCol; rw [if_neg c, if_pos (by omega)]
          · rw [e7, xri (by omega)]
            unfold nwP
            rw [xrd (by decide), xrd (by decide), xrd (by decide), xrd (by decide)]
            exact a87 j j0 (by omega)
        · intro j j0 j1
          rw [hcl1] at j1
          have f88 : M7 88 = xup M' 88 (M' 59 42) (M' 62 (3 * (6 * ty + key) + (k - at_))) 88 := by rw [e7, xrd (by decide)]; unfold nwP; rw [xrd (by decide), xrd (by decide), xrd (by decide)]
          have f89 : M7 89 = xup M' 89 (M' 59 42) 0 89 := by
            rw [e7, xrd (by decide)]; unfold nwP; rw [xrd (by decide), xrd (by decide)]
            funext i; simp [xup_ap]
          have f93 : M7 93 = xup M' 93 (M' 59 42) v 93 := by
            rw [e7, xrd (by decide)]; unfold nwP; rw [xrd (by decide)]
            funext i; simp [xup_ap]
          rw [f88, f89, f93, a42, hcl]
          by_cases hj : j = k - at_
          · subst hj
            rw [xrs, xrs, xrs, g62, hv2]; exact ⟨rfl, rfl, rfl⟩
          · rw [xri (by omega), xri (by omega), xri (by omega)]
            exact anew j j0 (by omega)
        · intro c i h1 h2 h3
          rw [e7, xup_ap, if_neg (fun z => by have := h2 z.1; omega)]
          unfold nwP
          rw [xup_ap, if_neg (fun z => h1 z), xup_ap, if_neg (fun z => by have := h3 (by omega); omega), xup_ap, if_neg (fun z => by have := h3 (by omega); omega), xup_ap, if_neg (fun z => by have := h3 (by omega); omega)]
          exact afr c i h1 h2 h3
      refine t_branch_144 hs ⟨⟨by omega, by omega⟩, fun z => absurd z (by omega), fun _ => ⟨by rw [g44]; rcases h44 with z | z <;> (rw [z]; exact ⟨by omega, by omega⟩), fun z => hnew _ ?_, fun z => ⟨by omega, ?_, hnew _ ?_⟩⟩⟩
      · rw [g44] at z; rw [if_pos z]
      · rw [g44] at z
        have := hv (by omega)
        rw [g93]; omega
      · rw [g44] at z
        rw [if_neg z, g66, g93, show 3 * M 93 q + k - at_ = 3 * M 93 q + (k - at_) by omega]
  · rintro M' ⟨k0, a42, a87, anew, afr⟩
    rw [cl_hi (by omega) hm.1] at a42 anew
    exact t_branch_112 hs ⟨⟨⟨by omega, by omega⟩, ⟨by omega, by omega⟩⟩, fun _ => h M' afr a42 a87 anew, fun c => absurd (by omega) c⟩
  · rw [cl_lo (by omega) hm.1, h42]; omega
/-- a row comes behind a test -/
theorem s_br291 {M : xM} {Q : xM → Prop} {acc : List aR} {r : aR} {x : Int} (hs : RSh e) (hwp : wfP D) (e68 : M 68 = D 68) (e70 : M 70 = D 70) (e71 : M 71 = D 71) (hat : 0 ≤ at_ ∧ at_ < w) (hw : w ≤ 300) (hm : 0 ≤ m ∧ m ≤ 3) (hx : 0 ≤ x ∧ x < en) (hen : 0 ≤ en ∧ en + 25 ≤ 8000) (hcb : 0 ≤ cb' ∧ cb' + 25 * (w - 1 + m) ≤ 2300000) (hlh : 0 ≤ lh ∧ lh + (w - 1 + m) ≤ 100000)
    (h87 : ∀ j, 0 ≤ j → j < w - 1 + m → M 87 (lh + j) = bCol col np at_ m j) (hn : ndR M en (w - 1 + m) cb' acc) (hl : acc.length < 24) (hrow : rwI M x w r) (hadr : 0 ≤ M 84 x ∧ M 84 x + w ≤ cb') (hok : okC D w r) (hpt : ∀ j, 0 ≤ j → j < m → bPt D (r.2.1 at_) j = -1 ∨ isP D (bPt D (r.2.1 at_) j))
    (h : ∀ M', ndR M' en (w - 1 + m) cb' (acc ++ [bRw D np at_ m r]) → frS en cb' M M' → R_branch_254 e (d + 1) en at_ key o w m lh np (x + 1) M' Q) :
    R_branch_291 e (d + 1) en at_ key o w m lh np x (r.2.1 at_) M Q := by
  have hp3 := okC_rg hwp hok hat.1 hat.2
  obtain ⟨n1, n2, n3, n4⟩ := hn
  have hm1 := mul_0 (i := acc.length) (w := w - 1 + m) (by omega)
  have hm2 := mul_st (i := acc.length) (j := 25) (w := w - 1 + m) (by omega) (by omega)
  have hm3 : ((25 : Nat) : Int) * (w - 1 + m) = 25 * (w - 1 + m) := rfl
  refine t_branch_291 hs ⟨by omega, s_pushRow hs (by omega) ?_⟩
  obtain ⟨M1, hM1⟩ : ∃ z : xM, z = pshR M (M 83 x) (w - 1 + m) := ⟨_, rfl⟩
  rw [← hM1]
  have p59 : M1 59 31 = en + acc.length + 1 := by rw [hM1]; unfold pshR; rw [xrs]; omega
  have p33 : M1 59 33 = cb' + (acc.length : Int) * (w - 1 + m) + (w - 1 + m) := by rw [hM1]; unfold pshR; rw [xri (by decide), xrs]; omega
  have p84 : M1 84 = xup M 84 (M 59 31) (M 59 33) 84 := by
    rw [hM1]; unfold pshR; rw [xrd (by decide), xrd (by decide)]
    funext i; simp [xup_ap]
  have p83 : M1 83 = xup M 83 (M 59 31) (M 83 x) 83 := by rw [hM1]; unfold pshR; rw [xrd (by decide), xrd (by decide), xrd (by decide)]
  have po : ∀ c, c ≠ 59 → c ≠ 83 → c ≠ 84 → M1 c = M c := by
    intro c h1 h2 h3
    rw [hM1]; unfold pshR; rw [xrd h1, xrd h1, xrd h3, xrd h2]
  have p84m : M1 84 (M 59 31) = cb' + (acc.length : Int) * (w - 1 + m) := by rw [p84, xrs]; exact n2
  have p84x : M1 84 x = M 84 x := by rw [p84, xri (by omega)]
  have frM : frS en cb' M M1 := by
    rw [hM1]; unfold pshR
    refine frS_up (frS_up (frS_up (frS_up frS_refl ?_) ?_) ?_) ?_
    · exact fun z => absurd (z.2.1 rfl) (by omega)
    · exact fun z => absurd (z.2.2.1 rfl) (by omega)
    · exact fun z => z.1 ⟨rfl, Or.inr rfl⟩
    · exact fun z => z.1 ⟨rfl, Or.inl rfl⟩
  obtain ⟨mk, hmk⟩ : ∃ z : Int, z = M 59 31 := ⟨_, rfl⟩
  obtain ⟨bs, hbs⟩ : ∃ z : Int, z = cb' + (acc.length : Int) * (w - 1 + m) := ⟨_, rfl⟩
  rw [← hmk] at p84 p84m p83 n1 ⊢
  rw [← hbs] at p84m p33 n2
  -- its names
  refine for_up (fun k M' => R_branch_314 e (d + 1) en at_ key o w m lh np x (r.2.1 at_) mk k M' Q) (fun k M' => 0 ≤ k ∧ (∀ a, 0 ≤ a → a < k → M' 85 (16 * mk + a) = r.2.2 a) ∧ (∀ c i, ¬ (c = 85 ∧ 16 * mk ≤ i) → M' c i = M1 c i)) 16 ?_ ?_ 0 M1 (by omega) ⟨by omega, fun a h0 h1 => by omega, fun _ _ _ => rfl⟩
  · rintro k M' ⟨k0, an, afr⟩ hlt hgo
    refine t_branch_314 hs ⟨⟨by omega, by omega⟩, fun c => absurd c (by omega), fun _ => ⟨by omega, by omega, fun M2 e2 => hgo M2 ⟨by omega, fun a h0 h1 => ?_, fun c i hc => ?_⟩⟩⟩
    · by_cases ha : a = k
      · rw [ha, e2, xrs, afr 85 _ (by omega), po 85 (by decide) (by decide) (by decide)]
        exact hrow.2.2 k k0 hlt
      · rw [e2, xri (by omega)]; exact an a h0 (by omega)
    · rw [e2, xup_ap, if_neg (by omega)]; exact afr c i hc
  · rintro M' ⟨k0, an, afr⟩
    refine t_branch_314 hs ⟨⟨by omega, by omega⟩, fun _ => ?_, fun c => absurd (by omega) c⟩
    -- its columns
    refine for_up (fun k M2 => R_branch_356 e (d + 1) en at_ key o w m lh np x (r.2.1 at_) mk k M2 Q) (fun k M2 => 0 ≤ k ∧ (∀ a, 0 ≤ a → a < 16 → M2 85 (16 * mk + a) = bNm D (r.2.1 at_) np r.2.2 (cl at_ m k).toNat a) ∧ (∀ j, 0 ≤ j → j < k → M2 86 (bs + j) = bCl D at_ m r.2.1 j) ∧ (∀ c i, ¬ (c = 85 ∧ 16 * mk ≤ i) → ¬ (c = 86 ∧ bs ≤ i) → M2 c i = M1 c i)) (w - 1 + m) ?_ ?_ 0 M' (by omega) ⟨by omega, fun a h0 h1 => ?_, fun j h0 h1 => by omega, fun c i h1 _ => afr c i h1⟩
    · rintro k M2 ⟨k0, bn, bc, bfr⟩ hlt hgo
      have g84m : M2 84 mk = bs := by rw [bfr 84 _ (by omega) (by omega)]; exact p84m
      have g84x : M2 84 x = M 84 x := by rw [bfr 84 _ (by omega) (by omega)]; exact p84x
      have gcell : ∀ j, 0 ≤ j → j < w → M2 86 (M 84 x + j) = r.2.1 j := by
        intro j h0 h1
        rw [bfr 86 _ (by omega) (by omega), po 86 (by decide) (by decide) (by decide)]
        exact hrow.2.1 j h0 h1
      have g68 : M2 68 = D 68 := by funext i; rw [bfr 68 i (by omega) (by omega), po 68 (by decide) (by decide) (by decide), e68]
      have g70 : M2 70 = D 70 := by funext i; rw [bfr 70 i (by omega) (by omega), po 70 (by decide) (by decide) (by decide), e70]
      have g71 : M2 71 = D 71 := by funext i; rw [bfr 71 i (by omega) (by omega), po 71 (by decide) (by decide) (by decide), e71]
      have g87 : M2 87 (lh + k) = bCol col np at_ m k := by rw [bfr 87 _ (by omega) (by omega), po 87 (by decide) (by decide) (by decide)]; exact h87 k k0 hlt
      -- a column that stays
      have stay : ∀ k', 0 ≤ k' → k' < w → bCl D at_ m r.2.1 k = r.2.1 k' → cl at_ m (k + 1) = cl at_ m k → R_branch_356 e (d + 1) en at_ key o w m lh np x (r.2.1 at_) mk (k + 1) (xup M2 86 (M2 84 mk + k) (M2 86 (M2 84 x + k'))) Q := by
        intro k' h0 h1 h2 h3
        refine hgo _ ⟨by omega, fun a a0 a1 => ?_, fun j j0 j1 => ?_, fun c i hc hc2 => ?_⟩
        · rw [xrd (by decide), h3]; exact bn a a0 a1
        · by_cases hj : j = k
          · rw [hj, g84m, xrs, g84x, gcell k' h0 h1, h2]
          · rw [g84m, xri (by omega)]; exact bc j j0 (by omega)
        · rw [xup_ap, g84m, if_neg (fun z => hc2 ⟨z.1, by omega⟩)]; exact bfr c i hc hc2
      have stay2 : (k < at_ ∨ at_ + m ≤ k) → R_branch_427 e (d + 1) en at_ key o w m lh np x (r.2.1 at_) mk k M2 Q := by
        intro hk
        refine t_branch_427 hs ⟨by omega, by omega, ⟨⟨by omega, by omega⟩, ⟨by omega, by omega⟩⟩, fun c => ?_, fun c => ?_⟩
        · have hv := okC_rg hwp hok (k := k - m + 1) (by omega) (by omega)
          refine ⟨by omega, ⟨by omega, by rw [g84x, gcell _ (by omega) (by omega)]; omega⟩, fun M3 e3 => ?_⟩
          rw [e3]
          exact stay (k - m + 1) (by omega) (by omega) (by unfold bCl; rw [if_neg (by omega), if_neg (by omega)]) (by rw [cl_hi (by omega) hm.1, cl_hi (by omega) hm.1])
        · have hv := okC_rg hwp hok (k := k) (by omega) (by omega)
          refine ⟨by omega, ⟨by omega, by rw [g84x, gcell _ (by omega) (by omega)]; omega⟩, fun M3 e3 => ?_⟩
          rw [e3]
          exact stay k (by omega) (by omega) (by unfold bCl; rw [if_pos (by omega)]) (by rw [cl_lo (by omega) hm.1, cl_lo (by omega) hm.1])
      refine t_branch_356 hs ⟨⟨⟨by omega, by omega⟩, ⟨by omega, by omega⟩⟩, fun c => absurd c (by omega), fun _ => ⟨⟨⟨by omega, by omega⟩, ⟨by omega, by omega⟩⟩, fun c => stay2 (Or.inl c), fun c => ⟨⟨⟨by omega, by omega⟩, ⟨by omega, by omega⟩⟩, fun c2 => stay2 (Or.inr c2), fun c2 => ?_⟩⟩⟩
      -- a part
      have hpart := hpt (k - at_) (by omega) (by omega)
      have hnew : R_branch_411 e (d + 1) en at_ key o w m lh np x (r.2.1 at_) mk k mk k (bPt D (r.2.1 at_) (k - at_)) M2 Q := by
        refine t_branch_411 hs ⟨by omega, s_setCell hs hwp (by omega) hpart g68 g70 g71 (by omega) ?_⟩
        rw [g87, g84m]
        have hb : bCol col np at_ m k = np + (k - at_) := by unfold bCol; rw [if_neg c, if_pos (by omega)]
        rw [hb]
        have hcl : cl at_ m k = k - at_ := cl_in (by omega) (by omega)
        have hcl1 : cl at_ m (k + 1) = k - at_ + 1 := by rw [cl_in (by omega) (by omega)]; omega
        refine hgo _ ⟨by omega, fun a a0 a1 => ?_, fun j j0 j1 => ?_, fun c i hc hc2 => ?_⟩
        · rw [xrd (by decide), hcl1, show (k - at_ + 1).toNat = (k - at_).toNat + 1 by omega]
          unfold stN bNm
          have hN : (((k - at_).toNat : Nat) : Int) = k - at_ := by omega
          rw [hN, show 16 * mk + a - 16 * mk = a by omega]
          by_cases ht : tF D (bPt D (r.2.1 at_) (k - at_)) a = true
          · rw [if_pos ht, if_pos ⟨rfl, by omega, ht⟩]
          · rw [if_neg ht, if_neg (fun z => ht z.2.2), bn a a0 a1, hcl]
        · by_cases hj : j = k
          · rw [hj, xrs]; unfold bCl; rw [if_neg c, if_pos (by omega)]
          · rw [xri (by omega), stN_ne (by decide)]; exact bc j j0 (by omega)
        · rw [xup_ap, if_neg (fun z => hc2 ⟨z.1, by omega⟩)]
          unfold stN
          rw [if_neg (fun z => hc ⟨z.1, by omega⟩)]
          exact bfr c i hc hc2
      refine ⟨⟨by omega, by omega⟩, fun c3 => ⟨by omega, ?_⟩, fun c3 => ?_⟩
      · have e5 : bPt D (r.2.1 at_) (k - at_) = M2 71 (3 * r.2.1 at_ + k - at_) := by
          unfold bPt prt; rw [if_neg (by omega), g71, show 3 * r.2.1 at_ + (k - at_) = 3 * r.2.1 at_ + k - at_ by omega]
        rw [← e5]; exact hnew
      · have e5 : bPt D (r.2.1 at_) (k - at_) = -1 := by unfold bPt; rw [if_pos (by omega)]
        rw [e5] at hnew; exact hnew
    · rintro M2 ⟨k0', bn, bc, bfr⟩
      rw [cl_hi (by omega) hm.1] at bn
      refine t_branch_356 hs ⟨⟨⟨by omega, by omega⟩, ⟨by omega, by omega⟩⟩, fun _ => h M2 ⟨?_, ?_, ?_, ?_⟩ ?_, fun c => absurd (by omega) c⟩
      · rw [bfr 59 31 (by omega) (by omega), p59]; simp; omega
      · rw [bfr 59 33 (by omega) (by omega), p33, List.length_append, List.length_singleton, mul_S]; omega
      · intro i hi
        rw [List.length_append, List.length_singleton] at hi
        rw [bfr 84 _ (by omega) (by omega), p84]
        by_cases hi2 : i = acc.length
        · rw [hi2, show en + (acc.length : Int) = mk by omega, xrs]; omega
        · rw [xri (by omega)]; exact n3 i (by omega)
      · intro i q hq
        by_cases hi2 : i = acc.length
        · rw [hi2, List.getElem?_append_right (Nat.le_refl _), Nat.sub_self] at hq
          have hq : bRw D np at_ m r = q := Option.some.inj hq
          subst hq
          rw [hi2, show en + (acc.length : Int) = mk by omega]
          refine ⟨?_, ?_, ?_⟩
          · rw [bfr 83 _ (by omega) (by omega), p83, xrs]; exact hrow.1
          · intro k h0 h1
            rw [bfr 84 _ (by omega) (by omega), p84m]; exact bc k h0 h1
          · intro a h0 h1; exact bn a h0 h1
        · have hi3 : i < acc.length := by
            rcases Nat.lt_or_ge i (acc ++ [bRw D np at_ m r]).length with h | h
            · rw [List.length_append, List.length_singleton] at h; omega
            · rw [List.getElem?_eq_none h] at hq; cases hq
          rw [List.getElem?_append_left hi3] at hq
          obtain ⟨b1, b2, b3⟩ := n4 i q hq
          have c1 := n3 i hi3
          have hm4 := mul_st (i := i) (j := acc.length) (w := w - 1 + m) hi3 (by omega)
          refine ⟨?_, ?_, ?_⟩
          · rw [bfr 83 _ (by omega) (by omega), p83, xri (by omega)]; exact b1
          · intro k h0 h1
            rw [bfr 84 _ (by omega) (by omega), p84, xri (by omega), bfr 86 _ (by omega) (by omega), po 86 (by decide) (by decide) (by decide)]; exact b2 k h0 h1
          · intro a h0 h1
            rw [bfr 85 _ (by omega) (by omega), po 85 (by decide) (by decide) (by decide)]; exact b3 a h0 h1
      · intro c i k
        rw [bfr c i (fun z => by have := k.2.2.2.1 z.1; omega) (fun z => by have := k.2.2.2.2 z.1; omega)]
        exact frM c i k
    · rw [an a h0 h1, cl_lo (by omega) hm.1]; rfl
end RBR
