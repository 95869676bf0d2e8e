/-! ===== the reference: tree, missing ===== -/
/-- the text of what is missing -/
def msT (D : xM) (m : Int) (v : aV) : List Int := flS (tx D v.2.2 400) (D 75 m).toNat 0
section RTR
variable {e : yE} {d : Nat} {M : xM} {m : Int}
theorem s_tree_r {x : Int} {Q : Int → xM → Prop} (hs : RSh e) (hd : 1100 ≤ d) (hr : rOK M) (hm : rg m) (hx : rg x)
    (hno : ¬ ((0 ≤ m ∧ m < M 59 25) ∧ 0 ≤ x ∧ x ≤ 4) → ∀ M', frR M M' → rOK M' → M' 81 = M 81 → Q (-1) M')
    (hbig : (0 ≤ m ∧ m < M 59 25) → (0 ≤ x ∧ x ≤ 4) → fin_ M m 120 [root M m] = none → ∀ M', frR M M' → rOK M' → M' 81 = M 81 → Q (-2) M')
    (hok : (0 ≤ m ∧ m < M 59 25) → (0 ≤ x ∧ x ≤ 4) → ∀ evs, fin_ M m 120 [root M m] = some evs → ∀ M', frR M M' → rOK M' → M' 81 = M 81 → Q (if x = 4 then ndM 0 evs else cntK x evs) M') : R_tree e d m x M Q := by
  obtain ⟨d, rfl⟩ : ∃ d', d = d' + 2 := ⟨d - 2, by omega⟩
  have hr' := hr
  obtain ⟨⟨gp, gt, gv, gb, ge⟩, h20, hall, hV, h9⟩ := hr'
  refine t_tree (t_tree_0 hs (fun M1 e1 => ?_))
  have f1 : frR M M1 := by rw [e1]; exact frR_0 rfl
  have r1 : rOK M1 := by rw [e1]; exact rOK_0 hr (by omega)
  have e81 : M1 81 = M 81 := by rw [e1, xrd (by decide)]
  have k1 : rKp M M1 := rKp_R f1
  refine s_isMatch hs hm (by rw [k1.2.2.2.2]; exact ⟨by omega, by omega⟩) ⟨bI_rg, fun z => ?_, fun z => ⟨hx, fun y => ?_, fun y => ⟨hx, fun w => ?_, fun w => ?_⟩⟩⟩
  · rw [k1.2.2.2.2, bI_0] at z
    exact hno (fun y => z y.1) M1 f1 r1 e81
  · exact hno (fun w => by omega) M1 f1 r1 e81
  · have hmm : 0 ≤ m ∧ m < M 59 25 := by
      have := Classical.not_not.mp (fun u => z (bI_0.mpr u))
      rw [k1.2.2.2.2] at this; exact this
    have hO := (hall m hmm.1 hmm.2).1
    refine s_look2 hs (by omega) r1 hmm.1 (by rw [k1.2.2.2.2]; exact hmm.2) (fun M2 f2 q2 l2 lk => ⟨by omega, ?_⟩)
    have r2 : rOK M2 := rOK_R r1 f2 l2
    have f12 := frR_trans f1 f2
    have hfin : fin_ M2 m 120 [root M2 m] = fin_ M m 120 [root M m] := fin_cg gp gt hO.1 (cng_R f12)
    have e81' : M2 81 = M 81 := by rw [q2, e81]
    rcases lk with ⟨y1, y2⟩ | ⟨y1, evs, y2, y3, y4⟩
    · rw [hfin] at y2
      exact ⟨by rw [y1]; exact ⟨by omega, by omega⟩, fun u => absurd u (by rw [y1]; decide), fun _ => hbig hmm (by omega) y2 M2 f12 r2 e81'⟩
    · rw [hfin] at y2
      refine ⟨by rw [y1]; exact ⟨by omega, by omega⟩, fun _ => ⟨by omega, ?_⟩, fun u => absurd y1 u⟩
      have := hok hmm (by omega) evs y2 M2 f12 r2 e81'
      by_cases u : x = 4
      · rw [if_pos u] at this; rw [u, y4]; exact this
      · rw [if_neg u] at this; rw [y3 x (by omega) (by omega)]; exact this
  · exact hno (fun u => by omega) M1 f1 r1 e81
/-- what missing() leaves of the rest -/
def frM (M M' : xM) : Prop := ∀ c i, (c < 59 ∨ (59 < c ∧ c < 82) ∨ 99 < c ∨ c = 96 ∨ c = 97 ∨ c = 98 ∨ (c = 59 ∧ i ≠ 0 ∧ i ≠ 31 ∧ i ≠ 33 ∧ i ≠ 35 ∧ i ≠ 42 ∧ i ≠ 43 ∧ i ≠ 44 ∧ i ≠ 45 ∧ i ≠ 46 ∧ i ≠ 48 ∧ i ≠ 50 ∧ i ≠ 55)) → M' c i = M c i
theorem rOK_M {M' : xM} (h : rOK M) (hf : frM M M') : rOK M' :=
  rOK_s h ⟨fun c c0 c1 => funext fun i => hf c i (by omega), hf 59 1 (by omega), hf 59 10 (by omega), hf 59 18 (by omega), hf 59 25 (by omega)⟩ (funext fun i => hf 96 i (by omega)) (funext fun i => hf 97 i (by omega)) (funext fun i => hf 98 i (by omega))
theorem s_missing_r {Q : Int → xM → Prop} (hs : RSh e) (hd : 1100 ≤ d) (hr : rOK M) (hm : rg m)
    (hno : ¬ (0 ≤ m ∧ m < M 59 25) → ∀ M', frM M M' → M' 59 55 = M 59 55 → M' 99 = M 99 → Q (-1) M')
    (hbig : (0 ≤ m ∧ m < M 59 25) → (fin_ M m 120 [root M m] = none ∨ ∃ evs pre v post, fin_ M m 120 [root M m] = some evs ∧ evs = pre ++ v :: post ∧ v.1 = 3 ∧ cntK 3 pre = 0 ∧ 4000 < (msT M m v).length) → ∀ M', frM M M' → M' 59 55 = M 59 55 → M' 99 = M 99 → Q (-2) M')
    (hnil : (0 ≤ m ∧ m < M 59 25) → ∀ evs, fin_ M m 120 [root M m] = some evs → cntK 3 evs = 0 → ∀ M', frM M M' → M' 59 55 = 0 → Q 0 M')
    (hok : (0 ≤ m ∧ m < M 59 25) → ∀ evs pre v post, fin_ M m 120 [root M m] = some evs → evs = pre ++ v :: post → v.1 = 3 → cntK 3 pre = 0 → (msT M m v).length ≤ 4000 → ∀ M', frM M M' → M' 59 55 = ((msT M m v).length : Int) → (∀ (j : Nat) x, (msT M m v)[j]? = some x → M' 99 j = x) → Q ((msT M m v).length : Int) M') : R_missing e d m M Q := by
  obtain ⟨d, rfl⟩ : ∃ d', d = d' + 2 := ⟨d - 2, by omega⟩
  have hr' := hr
  obtain ⟨⟨gp, gt, gv, gb, ge⟩, h20, hall, hV, h9⟩ := hr'
  refine t_missing (t_missing_0 hs (fun M1 e1 => ?_))
  have f1 : frM M M1 := fun c i hc => by rw [e1, xup_ap, if_neg (fun z => by omega)]
  have r1 : rOK M1 := rOK_M hr f1
  have e25 : M1 59 25 = M 59 25 := f1 59 25 (by omega)
  have o55 : M1 59 55 = M 59 55 := by rw [e1, xri (by decide)]
  have o99 : M1 99 = M 99 := by rw [e1, xrd (by decide)]
  refine s_isMatch hs hm (by rw [e25]; exact ⟨by omega, by omega⟩) ⟨bI_rg, fun z => ?_, fun z => ?_⟩
  · have hmm : 0 ≤ m ∧ m < M 59 25 := by
      have := Classical.not_not.mp (fun u => z (bI_0.mpr u))
      rw [e25] at this; exact this
    have hO := (hall m hmm.1 hmm.2).1
    intro M2 e2
    have f2 : frM M1 M2 := fun c i hc => by rw [e2, xup_ap, if_neg (fun z => by omega)]
    have r2 : rOK M2 := rOK_M r1 f2
    have f12 : frM M M2 := fun c i hc => (f2 c i hc).trans (f1 c i hc)
    have k2 : rKp M M2 := ⟨fun c c0 c1 => funext fun i => f12 c i (by omega), f12 59 1 (by omega), f12 59 10 (by omega), f12 59 18 (by omega), f12 59 25 (by omega)⟩
    have e50 : M2 59 50 = 0 := by rw [e2, xrs]
    have p55 : M2 59 55 = M 59 55 := by rw [e2, xri (by decide)]; exact o55
    have p99 : M2 99 = M 99 := by rw [e2, xrd (by decide)]; exact o99
    have hfin : fin_ M2 m 120 [root M2 m] = fin_ M m 120 [root M m] := fin_cg gp gt hO.1 (cng_K k2)
    have happ : app M2 m = app M m := app_c (cng_K k2)
    refine s_goA hs (by omega) (tOK_of r2 hmm.1 (by rw [k2.2.2.2.2]; exact hmm.2)) (fun M3 f3 alt => ?_)
    have f23 : frM M2 M3 := fun c i hc => f3 c i (by omega)
    have f13 : frM M M3 := fun c i hc => (f23 c i hc).trans (f12 c i hc)
    have q55 : M3 59 55 = M 59 55 := by rw [f3 59 55 (by omega)]; exact p55
    have q99 : M3 99 = M 99 := by rw [frG_c f3 99 (by omega)]; exact p99
    rcases alt with ⟨y1, y2⟩ | ⟨y1, evs, y2, y3⟩
    · rw [hfin] at y2
      exact ⟨by rw [y1]; exact ⟨by omega, by omega⟩, fun _ => hbig hmm (Or.inl y2) M3 f13 q55 q99, fun u => absurd (by rw [y1]; decide) u⟩
    · rw [hfin] at y2
      rw [happ] at y3
      have s48 : sg0 M2 59 48 = 0 := by unfold sg0; rw [if_neg (by decide), if_pos ⟨rfl, Or.inr rfl⟩]
      have s50 : sg0 M2 59 50 = 0 := by unfold sg0; rw [if_neg (by decide), if_neg (by omega)]; exact e50
      have a50 : M3 59 50 = (evs.foldl (app M m) (sg0 M2)) 59 50 := y3 59 50 (Or.inr (Or.inl ⟨rfl, by omega⟩))
      have a95 : M3 95 = (evs.foldl (app M m) (sg0 M2)) 95 := funext fun i => y3 95 i (Or.inr (Or.inr rfl))
      refine ⟨by rw [y1]; exact ⟨by omega, by omega⟩, fun u => absurd y1 u, fun _ => ?_⟩
      -- the draft is taken over
      have copy : ∀ (L : Int), 0 ≤ L → L ≤ 4000 → M3 59 50 = L → (∀ M', frM M M' → M' 59 55 = L → (∀ i, 0 ≤ i → i < L → M' 99 i = M3 95 i) → Q L M') → ∀ M6, M6 = xup M3 59 55 (M3 59 50) → R_missing_59 e (d + 1) 0 M6 Q := by
        intro L L0 L1 hL hQ M6 e6
        have g50 : M6 59 50 = L := by rw [e6, xri (by decide)]; exact hL
        have g55 : M6 59 55 = L := by rw [e6, xrs]; exact hL
        have g95 : M6 95 = M3 95 := by rw [e6, xrd (by decide)]
        have f36 : frM M M6 := fun c i hc => by rw [e6, xup_ap, if_neg (fun z => by omega)]; exact f13 c i hc
        have key : ∀ (n x : Nat) (M7 : xM), (x : Int) + n = L → (∀ j, j ≠ 99 → M7 j = M6 j) → (∀ i, 0 ≤ i → i < (x : Int) → M7 99 i = M3 95 i) → R_missing_59 e (d + 1) x M7 Q := by
          intro n
          induction n with
          | zero =>
            intro x M7 hx h1 h2
            have i50 : M7 59 50 = L := by rw [h1 59 (by decide)]; exact g50
            have i55 : M7 59 55 = L := by rw [h1 59 (by decide)]; exact g55
            refine t_missing_59 hs ⟨⟨⟨by omega, by omega⟩, by rw [i50]; exact ⟨by omega, by omega⟩⟩, fun _ => ?_, fun u => absurd (by rw [i50]; omega) u⟩
            rw [i55]
            exact hQ M7 (fun c i hc => by rw [h1 c (by omega)]; exact f36 c i hc) i55 (fun i i0 i1 => h2 i i0 (by omega))
          | succ n ih =>
            intro x M7 hx h1 h2
            have i50 : M7 59 50 = L := by rw [h1 59 (by decide)]; exact g50
            refine t_missing_59 hs ⟨⟨⟨by omega, by omega⟩, by rw [i50]; exact ⟨by omega, by omega⟩⟩, fun u => absurd u (by rw [i50]; omega), fun _ => ⟨by omega, by omega, fun M8 e8 => ih (x + 1) M8 (by omega) (fun j hj => by rw [e8, xrd hj]; exact h1 j hj) (fun i i0 i1 => ?_)⟩⟩
            by_cases w : i = x
            · rw [e8, w, xrs, h1 95 (by decide), g95]
            · rw [e8, xri w]; exact h2 i i0 (by omega)
        exact key L.toNat 0 M6 (by omega) (fun _ _ => rfl) (fun i i0 i1 => by omega)
      by_cases hz : cntK 3 evs = 0
      · obtain ⟨-, b2, -⟩ := fold_keep (D := M) (m := m) evs (sg0 M2) (Or.inl hz)
        have hL : M3 59 50 = 0 := by rw [a50, b2]; exact s50
        refine ⟨by rw [hL]; exact ⟨by omega, by omega⟩, fun _ => copy 0 (by omega) (by omega) hL (fun M' q1 q2 _ => hnil hmm evs y2 hz M' q1 q2), fun u => absurd (by rw [hL]; decide) u⟩
      · obtain ⟨pre, v, post, h1, h2, h3⟩ : ∃ pre v post, evs = pre ++ v :: post ∧ v.1 = 3 ∧ cntK 3 pre = 0 := by
          clear y3 a50 a95 y2 copy
          induction evs with
          | nil => exact absurd rfl hz
          | cons v l ih =>
            by_cases y : v.1 = 3
            · exact ⟨[], v, l, rfl, y, rfl⟩
            · have hz2 : cntK 3 (v :: l) = (if v.1 = 3 then 1 else 0) + cntK 3 l := rfl
              rw [if_neg y] at hz2
              obtain ⟨pre, v', post, h1, h2, h3⟩ := ih (by omega)
              refine ⟨v :: pre, v', post, by rw [h1]; rfl, h2, ?_⟩
              show (if v.1 = 3 then 1 else 0) + cntK 3 pre = 0
              rw [if_neg y]; omega
        obtain ⟨c1, c2⟩ := fold_miss (D := M) (m := m) h1 h2 h3 s48
        have c1 : (evs.foldl (app M m) (sg0 M2)) 59 50 = (if ((msT M m v).length : Int) ≤ 4001 then ((msT M m v).length : Int) else 4001) := c1
        by_cases hl : (msT M m v).length ≤ 4000
        · have hL : M3 59 50 = ((msT M m v).length : Int) := by rw [a50, c1, if_pos (by omega)]
          refine ⟨by rw [hL]; exact ⟨by omega, by omega⟩, fun _ => copy _ (by omega) (by omega) hL (fun M' q1 q2 q3 => hok hmm evs pre v post y2 h1 h2 h3 hl M' q1 q2 (fun j x hj => ?_)), fun u => absurd (by rw [hL]; omega) u⟩
          have hj2 : j < (msT M m v).length := (List.getElem?_eq_some_iff.mp hj).1
          rw [q3 j (by omega) (by omega), a95]
          exact c2 j x hj (by omega)
        · have hL : M3 59 50 = 4001 := by
            rw [a50, c1]
            by_cases w : ((msT M m v).length : Int) ≤ 4001
            · rw [if_pos w]; omega
            · rw [if_neg w]
          exact ⟨by rw [hL]; exact ⟨by omega, by omega⟩, fun u => absurd u (by rw [hL]; decide), fun _ => hbig hmm (Or.inr ⟨evs, pre, v, post, y2, h1, h2, h3, by omega⟩) M3 f13 q55 q99⟩
  · rw [e25, ] at z
    exact hno (bI_0.mp (Classical.not_not.mp z)) M1 f1 o55 o99
end RTR
