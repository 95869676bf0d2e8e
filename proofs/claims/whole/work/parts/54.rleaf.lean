/-! ===== the reference: failures, and what is taken ===== -/
section RLF
variable {e : yE} {D E : xM} {s w cb lst lh np : Int} {col : Int → Int}
theorem agA_cnt {σ M : xM} {k v : Int} (h : agA σ M) (hk : 0 ≤ k ∧ k < 4) : agA (xup (xup σ 59 46 (σ 59 46 + 1)) 94 k (σ 94 k + 1)) (xup (xup (xup M 59 45 v) 59 46 (M 59 46 + 1)) 94 k (M 94 k + 1)) := by
  have h1 := h 94 k (Or.inl ⟨rfl, by omega⟩)
  have h2 := h 59 46 (Or.inr (Or.inl ⟨rfl, by omega⟩))
  intro c i hc
  rw [xup_ap, xup_ap, xup_ap, xup_ap, xup_ap, h1, h2]
  by_cases c1 : c = 94 ∧ i = k
  · rw [if_pos c1, if_pos c1]
  · rw [if_neg c1, if_neg c1]
    by_cases c2 : c = 59 ∧ i = 46
    · rw [if_pos c2, if_pos c2]
    · rw [if_neg c2, if_neg c2, if_neg (fun z => by unfold acC at hc; omega)]
      exact h c i hc
theorem agA_up {σ M : xM} {c : Nat} {i v : Int} (h : agA σ M) : agA (xup σ c i v) (xup M c i v) := by
  intro c' i' hc
  rw [xup_ap, xup_ap, h c' i' hc]
theorem agA_no {σ M : xM} {c : Nat} {i v : Int} (h : agA σ M) (hn : ¬ acC c i) : agA σ (xup M c i v) := by
  intro c' i' hc
  rw [xup_ap, if_neg (fun z => hn (by rw [← z.1, ← z.2]; exact hc))]
  exact h c' i' hc
theorem xup_self {M : xM} {c : Nat} {i : Int} {v : Int} (h : M c i = v) : xup M c i v = M := by
  funext c' i'
  rw [xup_ap]
  split
  · rename_i z; rw [z.1, z.2, h]
  · rfl
/-- all that the tree is made of is in order -/
def gOK (D : xM) : Prop := wfP D ∧ wfT D ∧ wfV D ∧ (0 ≤ D 59 43 ∧ D 59 43 < 20) ∧ (0 ≤ D 75 (D 59 43) ∧ D 75 (D 59 43) ≤ 3) ∧ ∀ i, 0 ≤ i → i < 240 → rg (D 79 i)
theorem fr_cnt {M : xM} {v k : Int} : frN s cb lh np E M (xup (xup (xup M 59 45 v) 59 46 (M 59 46 + 1)) 94 k (M 94 k + 1)) :=
  frN_up (frN_up (frN_up (fun _ _ _ => rfl) (nk_59 (by omega))) (nk_59 (by omega))) nk_94
theorem s_failure {n d : Nat} {σ M : xM} {Q : xM → Prop} {rows : List aR} (hs : RSh e) (hg : gOK D) (h44 : D 59 44 = 0) (hd : 420 ≤ d) (hst : stt D M) (h45 : M 59 45 = 0) (hag : agA σ M) (hn : n ≤ 120) (h46 : σ 59 46 = 120 - n) (h48 : σ 59 48 = 0 ∨ σ 59 48 = 1) (hp : plc M np E) (hE : okE D np E) (hnp : np ≤ 390) (hwd : D 75 (D 59 43) ≤ np) (hshp : shp D w col rows = some ([], -1))
    (h : ∀ M', frN s cb lh np E M M' → M' 59 31 = M 59 31 → M' 59 33 = M 59 33 → M' 59 35 = M 59 35 → M' 59 42 = M 59 42 → altL D (D 59 43) n [(w, col, np, E, rows)] σ M' → Q M') : R_failure e d M Q := by
  obtain ⟨d1, rfl⟩ : ∃ d1, d = d1 + 420 := ⟨d - 420, by omega⟩
  obtain ⟨gp, gt, gv, g43, g75, -⟩ := hg
  have h46' : M 59 46 = 120 - n := by rw [hag 59 46 (Or.inr (Or.inl ⟨rfl, by omega⟩))]; exact h46
  refine t_failure (t_failure_0 hs (s_countNode hs (Or.inl h45) (by omega) (by omega) (fun _ c => ?_) (fun c => ?_)))
  · -- it is counted
    obtain ⟨M1, hM1⟩ : ∃ z : xM, z = xup (xup (xup M 59 45 0) 59 46 (M 59 46 + 1)) 94 3 (M 94 3 + 1) := ⟨_, rfl⟩
    rw [← hM1]
    obtain ⟨n', rfl⟩ : ∃ n', n = n' + 1 := ⟨n - 1, by omega⟩
    have fr1 : frN s cb lh np E M M1 := by rw [hM1]; exact fr_cnt
    have ag1 : agA (xup (xup σ 59 46 (σ 59 46 + 1)) 94 3 (σ 94 3 + 1)) M1 := by rw [hM1]; exact agA_cnt hag (by omega)
    have e44 : M1 59 44 = 0 := by rw [hM1, xrd (by decide), xri (by decide), xri (by decide), hst 59 44 (by omega)]; exact h44
    have e48 : M1 59 48 = σ 59 48 := by rw [ag1 59 48 (Or.inr (Or.inl ⟨rfl, by omega⟩)), xrd (by decide), xri (by decide)]
    have e45 : M1 59 45 = 0 := by rw [hM1, xrd (by decide), xri (by decide), xrs]
    have ev : evt D (D 59 43) E [] (-1) = (3, 0, E) := by unfold evt; rw [if_pos (by omega)]
    have ec : chd D (D 59 43) w col np E [] (-1) = [] := by unfold chd; rw [if_pos (by omega)]
    have fin : ∀ M', M' 59 45 = 0 → agA (app D (D 59 43) σ (3, 0, E)) M' → altL D (D 59 43) (n' + 1) [(w, col, np, E, rows)] σ M' := by
      intro M' a b
      refine altL_node hshp ?_
      rw [ev, ec]
      exact altL_nil a b (app_48 h48)
    have o : ∀ i, i = 31 ∨ i = 33 ∨ i = 35 ∨ i = 42 → M1 59 i = M 59 i := by
      intro i hi
      rw [hM1, xrd (by decide), xri (by omega), xri (by omega)]
    refine ⟨⟨by omega, by omega⟩, fun z => absurd z (by omega), fun _ => ⟨by rw [e44]; exact ⟨by omega, by omega⟩, fun z => absurd e44 z, fun _ => ⟨by rw [e48]; rcases h48 with z | z <;> (rw [z]; exact ⟨by omega, by omega⟩), fun z => ?_, fun z M3 e3 M4 e4 => ?_⟩⟩⟩
    · rw [e48] at z
      refine h M1 fr1 (o 31 (by omega)) (o 33 (by omega)) (o 35 (by omega)) (o 42 (by omega)) (fin M1 e45 ?_)
      unfold app
      rw [if_pos rfl, if_neg z]; exact ag1
    · rw [e48] at z
      have z : σ 59 48 = 0 := Classical.not_not.mp z
      have fr4 : frN s cb lh np E M M4 := by rw [e4, e3]; exact frN_up (frN_up fr1 (nk_59 (by omega))) (nk_59 (by omega))
      have ag4 : agA (xup (xup (xup (xup σ 59 46 (σ 59 46 + 1)) 94 3 (σ 94 3 + 1)) 59 48 1) 59 50 0) M4 := by rw [e4, e3]; exact agA_up (agA_up ag1)
      have st4 : stt D M4 := frN_stt fr4 hst
      have p4 : plc M4 np E := by
        intro q q0 q1
        have g : ∀ c, c = 88 ∨ c = 89 ∨ c = 90 ∨ c = 91 ∨ c = 92 → M4 c q = M c q := by
          intro c hc
          rw [e4, xrd (by omega), e3, xrd (by omega), hM1, xrd (by omega), xrd (by omega), xrd (by omega)]
        rw [g 88 (by omega), g 89 (by omega), g 90 (by omega), g 91 (by omega), g 92 (by omega)]
        exact hp q q0 q1
      have loop : ∀ (j : Nat) (k : Int) (M' : xM), 0 ≤ k → k + (j : Int) = D 75 (D 59 43) → (∀ c i, c ≠ 95 → ¬ (c = 59 ∧ i = 50) → M' c i = M4 c i) → (0 ≤ M' 59 50 ∧ M' 59 50 ≤ 4001) → Q (putL M' (flS (tx D E 400) j k)) → R_failure_34 e (d1 + 419) k M' Q := by
        intro j
        induction j with
        | zero =>
          intro k M' k0 k1 hM' h50 hq
          have f43 : M' 59 43 = D 59 43 := by rw [hM' 59 43 (by decide) (by omega), st4 59 43 (by omega)]
          have f75 : M' 75 (D 59 43) = D 75 (D 59 43) := by rw [hM' 75 _ (by decide) (by omega), st4 75 _ (by omega)]
          refine t_failure_34 hs ?_
          rw [f43, f75]
          exact ⟨g43, ⟨⟨by omega, by omega⟩, ⟨by omega, by omega⟩⟩, fun _ => hq, fun c => absurd (by omega) c⟩
        | succ j ih =>
          intro k M' k0 k1 hM' h50 hq
          have f43 : M' 59 43 = D 59 43 := by rw [hM' 59 43 (by decide) (by omega), st4 59 43 (by omega)]
          have f75 : M' 75 (D 59 43) = D 75 (D 59 43) := by rw [hM' 75 _ (by decide) (by omega), st4 75 _ (by omega)]
          have hD : tlD D M' := ⟨by funext i; rw [hM' 61 i (by decide) (by omega), st4 61 i (by omega)], by funext i; rw [hM' 62 i (by decide) (by omega), st4 62 i (by omega)], by funext i; rw [hM' 63 i (by decide) (by omega), st4 63 i (by omega)]⟩
          have hp' : plc M' np E := by
            intro q q0 q1
            rw [hM' 88 q (by decide) (by omega), hM' 89 q (by decide) (by omega), hM' 90 q (by decide) (by omega), hM' 91 q (by decide) (by omega), hM' 92 q (by decide) (by omega)]
            exact p4 q q0 q1
          refine t_failure_34 hs ?_
          rw [f43, f75]
          refine ⟨g43, ⟨⟨by omega, by omega⟩, ⟨by omega, by omega⟩⟩, fun c => absurd c (by omega), fun _ => ?_⟩
          have := s_tell (e := e) (D := D) (E := E) (np := np) hs gt gv hE (by omega) 400 (d1 + 7) k M' (fun M1 => R_failure_34 e (d1 + 419) (k + 1) M1 Q) (by omega) (by omega) hD hp' h50 ?_
          · exact this
          · refine ih (k + 1) _ (by omega) (by omega) (fun c i a b => by rw [putL_ne a b]; exact hM' c i a b) (putL_rg _ _ h50) ?_
            unfold flS at hq
            rw [putL_app] at hq
            exact hq
      refine loop (D 75 (D 59 43)).toNat 0 M4 (by omega) (by omega) (fun _ _ _ _ => rfl) (by rw [e4, xrs]; omega) ?_
      have o4 : ∀ i, i = 31 ∨ i = 33 ∨ i = 35 ∨ i = 42 ∨ i = 45 → (putL M4 (flS (tx D E 400) (D 75 (D 59 43)).toNat 0)) 59 i = M1 59 i := by
        intro i hi
        rw [putL_ne (by decide) (by omega), e4, xri (by omega), e3, xri (by omega)]
      refine h _ ?_ (by rw [o4 31 (by omega)]; exact o 31 (by omega)) (by rw [o4 33 (by omega)]; exact o 33 (by omega)) (by rw [o4 35 (by omega)]; exact o 35 (by omega)) (by rw [o4 42 (by omega)]; exact o 42 (by omega)) (fin _ (by rw [o4 45 (by omega)]; exact e45) ?_)
      · intro c i k
        rw [putL_ne (fun z => k.2.2.2.2.2.2.2.2 z) (fun z => k.1 ⟨z.1, by omega⟩)]
        exact fr4 c i k
      · unfold app
        rw [if_pos rfl, if_pos z]
        exact putL_ag _ _ _ ag4
  · -- too many
    have hn0 : n = 0 := by omega
    subst hn0
    refine ⟨⟨by omega, by omega⟩, fun _ => h _ fr_cnt ?_ ?_ ?_ ?_ (Or.inl ⟨?_, fun rest => rfl⟩), fun z => absurd rfl z⟩
    · rw [xrd (by decide), xri (by decide), xri (by decide)]
    · rw [xrd (by decide), xri (by decide), xri (by decide)]
    · rw [xrd (by decide), xri (by decide), xri (by decide)]
    · rw [xrd (by decide), xri (by decide), xri (by decide)]
    · rw [xrd (by decide), xri (by decide), xrs]
/-- a row comes once more, behind the others -/
theorem ndR_push {M : xM} {en cb' x : Int} {acc : List aR} {q : aR} (hn : ndR M en w cb' acc) (hw : 0 ≤ w) (hx : x < en) (hadr : M 84 x + w ≤ cb') (hI : rwI M x w q) : ndR (cpR (pshR M (M 83 x) w) x (M 59 31) w) en w cb' (acc ++ [q]) ∧ frS en cb' M (cpR (pshR M (M 83 x) w) x (M 59 31) w) := by
  obtain ⟨n1, n2, n3, n4⟩ := hn
  have hm1 := mul_0 (i := acc.length) (w := w) hw
  obtain ⟨M1, hM1⟩ : ∃ z : xM, z = pshR M (M 83 x) w := ⟨_, rfl⟩
  rw [← hM1]
  have p59 : M1 59 31 = en + acc.length + 1 := by rw [hM1]; unfold pshR; rw [xrs]; omega
  have p33 : M1 59 33 = cb' + (acc.length : Int) * w + w := by rw [hM1]; unfold pshR; rw [xri (by decide), xrs]; omega
  have p84 : M1 84 = xup M 84 (M 59 31) (M 59 33) 84 := by
    rw [hM1]; unfold pshR; rw [xrd (by decide), xrd (by decide)]
    funext i; simp [xup_ap]
  have p83 : M1 83 = xup M 83 (M 59 31) (M 83 x) 83 := by rw [hM1]; unfold pshR; rw [xrd (by decide), xrd (by decide), xrd (by decide)]
  have po : ∀ c, c ≠ 59 → c ≠ 83 → c ≠ 84 → M1 c = M c := by
    intro c h1 h2 h3
    rw [hM1]; unfold pshR; rw [xrd h1, xrd h1, xrd h3, xrd h2]
  have hmk : M1 84 (M 59 31) = cb' + (acc.length : Int) * w := by rw [p84, xrs]; exact n2
  have hI1 : rwI M1 x w q := by
    refine ⟨by rw [p83, xri (by omega)]; exact hI.1, fun k h0 h1 => ?_, fun a h0 h1 => ?_⟩
    · rw [p84, xri (by omega), po 86 (by decide) (by decide) (by decide)]; exact hI.2.1 k h0 h1
    · rw [po 85 (by decide) (by decide) (by decide)]; exact hI.2.2 a h0 h1
  refine ⟨⟨?_, ?_, ?_, ?_⟩, ?_⟩
  · rw [cpR_ne (by decide) (by decide), p59]; simp; omega
  · rw [cpR_ne (by decide) (by decide), p33, List.length_append, List.length_singleton, mul_S]; omega
  · intro i hi
    rw [List.length_append, List.length_singleton] at hi
    rw [cpR_ne (by decide) (by decide), p84]
    by_cases hi2 : i = acc.length
    · rw [hi2, show en + (acc.length : Int) = M 59 31 by omega, xrs]; omega
    · rw [xri (by omega)]; exact n3 i (by omega)
  · intro i q' hq
    by_cases hi2 : i = acc.length
    · rw [hi2, List.getElem?_append_right (Nat.le_refl _), Nat.sub_self] at hq
      have hq : q = q' := Option.some.inj hq
      subst hq
      rw [hi2, show en + (acc.length : Int) = M 59 31 by omega]
      refine rwI_cp hI1 ?_
      rw [p83, xrs]; exact hI.1
    · have hi3 : i < acc.length := by
        rcases Nat.lt_or_ge i (acc ++ [q]).length with h | h
        · rw [List.length_append, List.length_singleton] at h; omega
        · rw [List.getElem?_eq_none h] at hq; cases hq
      rw [List.getElem?_append_left hi3] at hq
      obtain ⟨b1, b2, b3⟩ := n4 i q' hq
      have c1 := n3 i hi3
      have hm4 := mul_st (i := i) (j := acc.length) (w := w) hi3 hw
      have g84 : M1 84 (en + i) = M 84 (en + i) := by rw [p84, xri (by omega)]
      refine rwI_cp_ne ⟨by rw [p83, xri (by omega)]; exact b1, fun k h0 h1 => ?_, fun a h0 h1 => ?_⟩ (by omega) (by rw [hmk, g84]; omega)
      · rw [g84, po 86 (by decide) (by decide) (by decide)]; exact b2 k h0 h1
      · rw [po 85 (by decide) (by decide) (by decide)]; exact b3 a h0 h1
  · refine frS_cp ?_ (by omega) (by rw [hmk]; omega)
    rw [hM1]; unfold pshR
    refine frS_up (frS_up (frS_up (frS_up frS_refl ?_) ?_) ?_) ?_
    · exact fun z => absurd (z.2.1 rfl) (by omega)
    · exact fun z => absurd (z.2.2.1 rfl) (by omega)
    · exact fun z => z.1 ⟨rfl, Or.inr rfl⟩
    · exact fun z => z.1 ⟨rfl, Or.inl rfl⟩
theorem s_lf152 {d : Nat} {Mx : xM} {Q : xM → Prop} {r : aR} {rs : List aR} {en cb' : Int} (hs : RSh e) (hwp : wfP D) (hw : 0 ≤ w ∧ w ≤ 300) (hs0 : 0 ≤ s) (hen : en = s + 1 + rs.length) (hen2 : en + 25 ≤ 8000) (hcb : 0 ≤ cb' ∧ cb' + 25 * w ≤ 2300000) (hl : rs.length ≤ 23) (hrow : ∀ (i : Nat) q, (r :: rs)[i]? = some q → rwI Mx (s + i) w q ∧ 0 ≤ Mx 84 (s + i) ∧ Mx 84 (s + i) + w ≤ cb') (hok : ∀ q ∈ rs, okC D w q)
    (h : ∀ M', ndR M' en w cb' rs → frS en cb' Mx M' → R_node e (d + 1) en lst w M' Q) :
    ∀ (todo dn : List aR) (M : xM), rs = dn ++ todo → ndR M en w cb' dn → frS en cb' Mx M → R_leaf_152 e (d + 1) lst w en (s + 1 + dn.length) M Q := by
  intro todo
  induction todo with
  | nil =>
    intro dn M hr hn hfr
    rw [List.append_nil] at hr
    subst hr
    exact t_leaf_152 hs ⟨⟨⟨by omega, by omega⟩, ⟨by omega, by omega⟩⟩, fun _ => h M hn hfr, fun c => absurd (by omega) c⟩
  | cons q todo ih =>
    intro dn M hr hn hfr
    have hgr : (r :: rs)[dn.length + 1]? = some q := by rw [List.getElem?_cons_succ, hr, List.getElem?_append_right (Nat.le_refl _), Nat.sub_self]; rfl
    have hlr : dn.length < rs.length := by rw [hr, List.length_append, List.length_cons]; omega
    obtain ⟨hI, ha0, ha1⟩ := hrow _ q hgr
    rw [show s + ((dn.length + 1 : Nat) : Int) = s + 1 + (dn.length : Int) by omega] at hI ha0 ha1
    have hokq : okC D w q := hok q (by rw [hr]; simp)
    have g84 : M 84 (s + 1 + dn.length) = Mx 84 (s + 1 + dn.length) := hfr 84 _ ⟨by omega, by omega, by omega, by omega, by omega⟩
    have hI2 : rwI M (s + 1 + dn.length) w q := by
      refine ⟨?_, fun k h0 h1 => ?_, fun a h0 h1 => ?_⟩
      · rw [hfr 83 _ ⟨by omega, by omega, by omega, by omega, by omega⟩]; exact hI.1
      · rw [g84, hfr 86 _ ⟨by omega, by omega, by omega, by omega, by omega⟩]; exact hI.2.1 k h0 h1
      · rw [hfr 85 _ ⟨by omega, by omega, by omega, by omega, by omega⟩]; exact hI.2.2 a h0 h1
    obtain ⟨hp1, hp2⟩ := ndR_push hn hw.1 (x := s + 1 + dn.length) (by omega) (by omega) hI2
    have n1 := hn.1
    have n2 := hn.2.1
    have hm1 := mul_0 (i := dn.length) (w := w) hw.1
    have hm2 := mul_st (i := dn.length) (j := 25) (w := w) (by omega) hw.1
    have hm3 : ((25 : Nat) : Int) * w = 25 * w := rfl
    refine t_leaf_152 hs ⟨⟨⟨by omega, by omega⟩, ⟨by omega, by omega⟩⟩, fun c => absurd c (by omega), fun _ => ⟨by omega, s_pushRow hs (by omega) ?_⟩⟩
    have q84 : ∀ i, i ≠ M 59 31 → (pshR M (M 83 (s + 1 + dn.length)) w) 84 i = M 84 i := by
      intro i hi; unfold pshR; rw [xrd (by decide), xrd (by decide), xri hi, xrd (by decide)]
    have q84m : (pshR M (M 83 (s + 1 + dn.length)) w) 84 (M 59 31) = M 59 33 := by unfold pshR; rw [xrd (by decide), xrd (by decide), xrs]
    have q86 : (pshR M (M 83 (s + 1 + dn.length)) w) 86 = M 86 := by unfold pshR; rw [xrd (by decide), xrd (by decide), xrd (by decide), xrd (by decide)]
    refine s_copyRow hs (by omega) (by omega) (by omega) (by omega) (by rw [q84 _ (by omega)]; omega) (by rw [q84m]; omega) (by rw [q84m, q84 _ (by omega)]; omega) (fun k h0 h1 => ?_) ?_
    · rw [q84 _ (by omega), q86, hI2.2.1 k h0 h1]; exact okC_rg hwp hokq h0 h1
    · have := ih (dn ++ [q]) _ (by rw [hr]; simp) hp1 (frS_trans hfr hp2)
      rw [List.length_append, List.length_singleton, show s + 1 + ((dn.length + 1 : Nat) : Int) = s + 1 + (dn.length : Int) + 1 by omega] at this
      exact this
end RLF
