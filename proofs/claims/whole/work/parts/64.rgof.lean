/-! ===== the reference: following from the root; looking ===== -/
section RGF
variable {e : yE} {d : Nat} {M : xM} {m : Int}
/-- what a guard says of its row's patterns: its names are theirs -/
def wfG (D : xM) (m : Int) : Prop := ∀ r, 0 ≤ r → r < D 77 m → 0 ≤ D 79 (12 * m + r) → ∀ a, (a = D 79 (12 * m + r) ∨ a = D 80 (12 * m + r)) → (0 ≤ a ∧ a < 16) ∧ ∃ k, (0 ≤ k ∧ k < D 75 m) ∧ nmb D (D 78 (36 * m + 3 * r + k)) a
theorem rtN_ge {D : xM} {r a : Int} : ∀ n : Nat, (∃ k, (0 ≤ k ∧ k < (n : Int)) ∧ tF D (D 78 (36 * m + 3 * r + k)) a = true) → 0 ≤ rtN D m r n a := by
  intro n
  induction n with
  | zero => rintro ⟨k, hk, -⟩; omega
  | succ n ih =>
    rintro ⟨k, hk, hk2⟩
    unfold rtN
    by_cases ht : tF D (D 78 (36 * m + 3 * r + (n : Int))) a = true
    · rw [if_pos ht]; omega
    · rw [if_neg ht]
      refine ih ⟨k, ?_, hk2⟩
      have : k ≠ (n : Int) := fun z => ht (by rw [← z]; exact hk2)
      omega
theorem root_gd {D : xM} (hw : wfP D) (hb : wfB D) (hm : wfM D m) (hg : wfG D m) : ∀ r ∈ rtL D m (D 77 m).toNat, gdI D m (D 75 m) r := by
  intro r hr
  obtain ⟨i, hi, rfl⟩ := rtL_mem _ hr
  intro g0 a ha
  obtain ⟨u1, k, hk, hk2⟩ := hg i (by omega) (by omega) g0 a ha
  refine ⟨u1, ?_⟩
  have hp := (hm.2.2.2.2 i k (by omega) (by omega) hk.1 hk.2).1
  rcases (lF_nm1 hw hb hp u1.1 u1.2).1.mp hk2 with z | ⟨z1, z2⟩
  · exact Or.inl (rtN_ge _ ⟨k, by omega, z⟩)
  · right
    have e1 : (rtR D m i).2.1 k = lF D (D 78 (36 * m + 3 * i + k)) := by
      show (if 0 ≤ k ∧ k < D 75 m then _ else _) = _
      rw [if_pos hk]
    exact ⟨k, hk, by rw [e1]; exact z1, by rw [e1]; exact z2⟩
theorem wk_c {D D' : xM} (hw : wfP D) (ht : wfT D) (h : cng D D' m) (h65 : D' 65 = D 65) (h66 : D' 66 = D 66) : ∀ (n : Nat) (a : aN) (va : Int → Int), wfN D a.1 a.2.1 a.2.2.1 a.2.2.2.1 a.2.2.2.2 → wk D' m n a va = wk D m n a va := by
  intro n
  induction n with
  | zero => intro a va _; rfl
  | succ n ih =>
    intro a va hn
    obtain ⟨w, col, np, E, rows⟩ := a
    have hn : wfN D w col np E rows := hn
    have e := shp_c hw h hn.1.1 (rows := rows) (col := col) (E := E) (fun q hq => (hn.2.1 q hq).1) hn.2.2
    cases hq : shp D w col rows with
    | none =>
      have hq' : shp D' w col rows = none := by rw [e]; exact hq
      rw [wk, wk]
      show (match shp D' w col rows with | none => _ | some q => _) = (match shp D w col rows with | none => _ | some q => _)
      rw [hq, hq']
    | some q =>
      obtain ⟨rows', a⟩ := q
      have hq' : shp D' w col rows = some (rows', a) := by rw [e]; exact hq
      obtain ⟨wf2, hcase⟩ := wfN_shp hw hn hq
      have hwd := wfN_chd (mm := m) hw ht wf2 hcase
      have hrest := hcase
      rcases hcase with ⟨z, -⟩ | ⟨hat, -, hne⟩
      · subst z
        cases rows' with
        | nil => rw [wk_fail hq, wk_fail hq']
        | cons r rs =>
          have hr := (wf2.2.1 r (by simp)).2.1
          obtain ⟨f1, f2⟩ := h.2.2.2.1 r.1 hr.1 hr.2
          rw [wk_leaf hq, wk_leaf hq', f1, f2, h65]
          by_cases c1 : D 79 (12 * m + r.1) < 0
          · rw [if_pos c1, if_pos c1]
          · rw [if_neg c1, if_neg c1]
            have hc : wfN D w col np E rs := ⟨wf2.1, fun q hq => wf2.2.1 q (List.mem_cons_of_mem _ hq), by have := wf2.2.2; rw [List.length_cons] at this; omega⟩
            rw [ih (w, col, np, E, rs) va hc]
      · rw [wk_test hq hat.1, wk_test hq' hat.1, kys_c h hat rows' [] (fun q hq => (wf2.2.1 q hq).1), h65, h.2.2.1.1]
        by_cases c1 : D 65 (va (col a)) ∈ kys D a rows' []
        · rw [if_pos c1, if_pos c1, chB_c hw ht h wf2 hat hne (key_ok hw wf2 hat hne c1).1]
          have hv : vaN D' va np (col a) = vaN D va np (col a) := by unfold vaN; rw [h66]
          rw [hv, ih _ _ (wfN_chB hw ht wf2 hat hne (key_ok hw wf2 hat hne c1).1 rfl)]
        · rw [if_neg c1, if_neg c1, chB_c hw ht h wf2 hat hne (oth := true) (fun z => by cases z), ih _ _ (wfN_chB hw ht wf2 hat hne (oth := true) (fun z => by cases z) rfl)]
theorem wfVl_43 {f : Int} (h : wfVl M) : wfVl (xup (xup M 59 43 m) 59 44 f) := by
  unfold wfVl
  rw [xup_o (by omega), xup_o (by omega), xup_c (by decide), xup_c (by decide), xup_c (by decide), xup_c (by decide), xup_c (by decide), xup_c (by decide)]
  exact h
theorem nmb_43 {f p a : Int} : nmb (xup (xup M 59 43 m) 59 44 f) p a ↔ nmb M p a := by unfold nmb; rw [xup_c (by decide)]
theorem wfB_43 {f : Int} (h : wfB M) : wfB (xup (xup M 59 43 m) 59 44 f) := by
  unfold wfB isP pct prt
  simp only [nmb_43, xup_o (show (18 : Int) ≠ 43 ∧ (18 : Int) ≠ 44 by omega), xup_c (show (61 : Nat) ≠ 59 by decide), xup_c (show (68 : Nat) ≠ 59 by decide), xup_c (show (69 : Nat) ≠ 59 by decide), xup_c (show (70 : Nat) ≠ 59 by decide), xup_c (show (71 : Nat) ≠ 59 by decide)]
  exact h
theorem wfG_43 {f : Int} (h : wfG M m) : wfG (xup (xup M 59 43 m) 59 44 f) m := by
  unfold wfG
  simp only [nmb_43, xup_c (show (75 : Nat) ≠ 59 by decide), xup_c (show (77 : Nat) ≠ 59 by decide), xup_c (show (78 : Nat) ≠ 59 by decide), xup_c (show (79 : Nat) ≠ 59 by decide), xup_c (show (80 : Nat) ≠ 59 by decide)]
  exact h
/-- values are followed through a tree that stands -/
theorem s_goF {a b c : Int} {Q : xM → Prop} (hs : RSh e) (hd : 1000 ≤ d) (ht : tOK M m) (hvl : wfVl M) (hwb : wfB M) (hwg : wfG M m) (hfin : fin_ M m 120 [root M m] ≠ none) (hval : ∀ q, 0 ≤ q → q < M 75 m → (0 ≤ pk3 q a b c ∧ pk3 q a b c < M 59 10) ∧ M 64 (pk3 q a b c) = M 76 (3 * m + q))
    (h : ∀ M', frG M M' → M' 59 45 = 0 → M' 94 0 = (wk M m 120 (root M m) (fun q => pk3 q a b c)).1 → M' 94 1 = (wk M m 120 (root M m) (fun q => pk3 q a b c)).2.1 → Q M') : R_goThrough e d m 1 a b c M Q := by
  obtain ⟨d1, rfl⟩ : ∃ d1, d = d1 + 2 := ⟨d - 2, by omega⟩
  obtain ⟨t1, t2, t3, t4, t5⟩ := ht
  have hc := cng_43 (M := M) (m := m) (f := 1)
  have m1 := t4.1
  have m2 := t4.2.1
  refine s_goTo hs (Or.inr rfl) t1 t4 ?_
  intro M' st hn h87 h42 h35 hp h93 h45 hag
  have e43 : xup (xup M 59 43 m) 59 44 1 59 43 = m := by rw [xri (by decide), xrs]
  have hwf := root_wf (wfP_43 (m := m) (f := 1) t1) (wfM_43 (f := 1) t4)
  have hroot := root_c t1 t4 hc
  have hE0 : E0 (xup (xup M 59 43 m) 59 44 1) m = E0 M m := by unfold E0; rw [xup_c (by decide)]
  have hrt : rtL (xup (xup M 59 43 m) 59 44 1) m (M 77 m).toNat = rtL M m (M 77 m).toNat := by
    have := congrArg (fun x : aN => x.2.2.2.2) hroot
    unfold root at this
    rw [xup_c (by decide)] at this
    exact this
  rw [hE0, xup_c (by decide), xup_c (by decide), hrt] at hwf
  have hgd := root_gd (wfP_43 (m := m) (f := 1) t1) (wfB_43 (m := m) (f := 1) hwb) (wfM_43 (f := 1) t4) (wfG_43 (f := 1) hwg)
  rw [xup_c (by decide), xup_c (by decide), hrt] at hgd
  have wr : wfN M (root M m).1 (root M m).2.1 (root M m).2.2.1 (root M m).2.2.2.1 (root M m).2.2.2.2 := root_wf t1 t4
  have hf2 : fin_ (xup (xup M 59 43 m) 59 44 1) m 120 [root M m] ≠ none := by
    rw [fin_c t1 t2 hc 120 [root M m] (fun x hx => by have : x = root M m := (by simpa using hx); subst this; exact wr)]
    exact hfin
  have hgo := s_nodeF hs (D := xup (xup M 59 43 m) 59 44 1) ⟨wfP_43 t1, wfT_43 t2, wfVl_43 hvl, wfB_43 hwb, by rw [e43]; exact m1, by rw [xup_c (by decide)]; exact t5⟩ xrs 120
  have h94 : ∀ i, 0 ≤ i → i < 5 → M' 94 i = 0 := by
    intro i h0 h1
    rw [hag 94 i (Or.inl ⟨rfl, h0, h1⟩)]; unfold sg0; rw [if_pos rfl]
  refine hgo (d1 + 1) 0 0 0 (M 75 m) (M 75 m) (fun k => k) (M 75 m) (E0 M m) (rtL M m (M 77 m).toNat) M' Q (fun q => pk3 q a b c) 120 [] (by omega) (by omega) st hn h87 h42 h35 hp ⟨by omega, by omega, by omega, by omega, by omega, by omega⟩ hwf (by rw [e43]; exact hgd) h93 ?_ h45 (by rw [hag 59 46 (Or.inr (Or.inl ⟨rfl, by omega⟩))]; unfold sg0; rw [if_neg (by decide), if_pos ⟨rfl, by omega⟩]; omega) (by rw [e43]; exact hf2) ?_
  · intro q q0 q1
    have x88 : E0 M m 88 q = M 76 (3 * m + q) := by unfold E0; rw [if_pos ⟨rfl, by omega, by omega⟩]
    rw [x88, xup_o (by omega), xup_c (by decide)]
    exact hval q q0 q1
  · intro M2 fr2 _ _ _ _ z45 z0 z1
    rw [e43] at z0 z1
    have hw := wk_c (m := m) t1 t2 hc (by rw [xup_c (by decide)]) (by rw [xup_c (by decide)]) 120 (root M m) (fun q => pk3 q a b c) wr
    refine h M2 ?_ z45 ?_ ?_
    · intro c i hc
      rw [fr2 c i ⟨by omega, by omega, by omega, by omega, by omega, by omega, by omega, by omega, by omega⟩, st c i (by omega)]
      rw [xup_ap, if_neg (by omega), xup_ap, if_neg (by omega)]
    · rw [z0, h94 0 (by omega) (by omega), Int.zero_add, ← hw]; rfl
    · rw [z1, h94 1 (by omega) (by omega), Int.zero_add, ← hw]; rfl
/-- what looking finds -/
def lkd (M : xM) (m : Int) : Prop := (M 97 m = 1 ∧ fin_ M m 120 [root M m] = none) ∨ (M 97 m = 0 ∧ ∃ evs, fin_ M m 120 [root M m] = some evs ∧ ∀ k, 0 ≤ k → k < 5 → M 98 (5 * m + k) = (evs.foldl (app M m) (sg0 M)) 94 k)
theorem s_look {Q : xM → Prop} (hs : RSh e) (hd : 1001 ≤ d) (hm : 0 ≤ m ∧ m < 20) (h96 : M 96 m = 0 ∨ M 96 m = 1) (ht : M 96 m = 0 → tOK M m)
    (h0 : M 96 m = 1 → Q M)
    (h1 : M 96 m = 0 → ∀ M', (∀ c i, (c < 59 ∨ (59 < c ∧ c < 83) ∨ 98 < c ∨ (c = 59 ∧ i ≠ 31 ∧ i ≠ 33 ∧ i ≠ 35 ∧ i ≠ 42 ∧ i ≠ 43 ∧ i ≠ 44 ∧ i ≠ 45 ∧ i ≠ 46 ∧ i ≠ 48 ∧ i ≠ 50) ∨ (c = 96 ∧ i ≠ m) ∨ (c = 97 ∧ i ≠ m) ∨ (c = 98 ∧ ¬ (5 * m ≤ i ∧ i < 5 * m + 5))) → M' c i = M c i) → M' 96 m = 1 → ((M' 97 m = 1 ∧ fin_ M m 120 [root M m] = none) ∨ (M' 97 m = 0 ∧ ∃ evs, fin_ M m 120 [root M m] = some evs ∧ ∀ k, 0 ≤ k → k < 5 → M' 98 (5 * m + k) = (evs.foldl (app M m) (sg0 M)) 94 k)) → Q M') : R_look e d m M Q := by
  obtain ⟨d1, rfl⟩ : ∃ d1, d = d1 + 1 := ⟨d - 1, by omega⟩
  refine t_look (t_look_0 hs ⟨hm, by rcases h96 with z | z <;> (rw [z]; exact ⟨by omega, by omega⟩), fun c => h0 (by omega), fun c => ?_⟩)
  have c : M 96 m = 0 := Classical.not_not.mp c
  refine s_goA hs (by omega) (ht c) ?_
  intro M1 fr1 alt
  have h45 : M1 59 45 = 0 ∨ M1 59 45 = 1 := by
    rcases alt with z | z
    · exact Or.inr z.1
    · exact Or.inl z.1
  refine ⟨hm, fun M2 e2 => ⟨⟨hm, by rw [e2, xrd (by decide)]; exact h45⟩, fun M3 e3 => ?_⟩⟩
  have f45 : M2 59 45 = M1 59 45 := by rw [e2, xrd (by decide)]
  rw [f45] at e3
  refine for_up (fun k M' => R_look_37 e d1 m k M' Q) (fun k M' => 0 ≤ k ∧ (∀ c i, c ≠ 98 ∨ ¬ (5 * m ≤ i ∧ i < 5 * m + 5) → M' c i = M3 c i) ∧ ∀ j, 0 ≤ j → j < k → M' 98 (5 * m + j) = M1 94 j) 5 ?_ ?_ 0 M3 (by omega) ⟨by omega, fun _ _ _ => rfl, fun j h0 h1 => by omega⟩
  · rintro k M' ⟨k0, kf, kn⟩ hlt hgo
    have g94 : M' 94 k = M1 94 k := by rw [kf 94 k (Or.inl (by decide)), e3, xrd (by decide), e2, xrd (by decide)]
    refine t_look_37 hs ⟨⟨by omega, by omega⟩, fun z => absurd z (by omega), fun _ => ⟨by omega, by omega, fun M4 e4 => hgo M4 ⟨by omega, fun c i hc => ?_, fun j h0 h1 => ?_⟩⟩⟩
    · rw [e4, xup_ap, if_neg (by omega)]; exact kf c i hc
    · by_cases hj : j = k
      · rw [hj, e4, xrs]; exact g94
      · rw [e4, xri (by omega)]; exact kn j h0 (by omega)
  · rintro M' ⟨-, kf, kn⟩
    refine t_look_37 hs ⟨⟨by omega, by omega⟩, fun _ => h1 c M' ?_ ?_ ?_, fun z => absurd (by omega) z⟩
    · intro c i hc
      rw [kf c i (by omega), e3, xup_ap, if_neg (by omega), e2, xup_ap, if_neg (by omega)]
      exact fr1 c i (by omega)
    · rw [kf 96 m (Or.inl (by decide)), e3, xrd (by decide), e2, xrs]
    · have g97 : M' 97 m = M1 59 45 := by rw [kf 97 m (Or.inl (by decide)), e3, xrs]
      rw [g97]
      rcases alt with z | ⟨z1, evs, z2, z3⟩
      · exact Or.inl z
      · refine Or.inr ⟨z1, evs, z2, fun k k0 k1 => ?_⟩
        rw [kn k k0 k1]; exact z3 94 k (Or.inl ⟨rfl, k0, k1⟩)
end RGF
