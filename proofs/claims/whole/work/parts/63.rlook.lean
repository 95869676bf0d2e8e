/-! ===== the reference: goThrough and look ===== -/
/-- what stays when trees are gone through, whatever the match -/
def frG (M M' : xM) : Prop := ∀ c i, (c < 59 ∨ (59 < c ∧ c < 83) ∨ 95 < c ∨ (c = 59 ∧ i ≠ 31 ∧ i ≠ 33 ∧ i ≠ 35 ∧ i ≠ 42 ∧ i ≠ 43 ∧ i ≠ 44 ∧ i ≠ 45 ∧ i ≠ 46 ∧ i ≠ 48 ∧ i ≠ 50)) → M' c i = M c i
theorem frG_c {M M' : xM} (h : frG M M') (c : Nat) (hc : c < 59 ∨ (59 < c ∧ c < 83) ∨ 95 < c) : M' c = M c := by
  funext i; exact h c i (by omega)
/-- all that a match's tree is made of is in order -/
def tOK (D : xM) (m : Int) : Prop := wfP D ∧ wfT D ∧ wfV D ∧ wfM D m ∧ ∀ i, 0 ≤ i → i < 240 → rg (D 79 i)
def sg0 (M : xM) : xM := fun c i => if c = 94 then 0 else if c = 59 ∧ (i = 46 ∨ i = 48) then 0 else M c i
section RLK
variable {e : yE} {d : Nat} {M : xM} {m : Int}
theorem xup_c {M : xM} {m f : Int} {k : Nat} (h : k ≠ 59) : xup (xup M 59 43 m) 59 44 f k = M k := by rw [xrd h, xrd h]
theorem xup_o {M : xM} {m f i : Int} (h : i ≠ 43 ∧ i ≠ 44) : xup (xup M 59 43 m) 59 44 f 59 i = M 59 i := by rw [xri h.2, xri h.1]
/-- which match is looked at changes nothing -/
theorem cng_43 {f : Int} : cng M (xup (xup M 59 43 m) 59 44 f) m := by
  refine ⟨by rw [xup_o (by omega)]; exact Int.le_refl _, fun p _ => ?_, ?_, fun r _ _ => ?_, ?_⟩
  · simp only [xup_c (show (68 : Nat) ≠ 59 by decide), xup_c (show (69 : Nat) ≠ 59 by decide), xup_c (show (70 : Nat) ≠ 59 by decide), xup_c (show (71 : Nat) ≠ 59 by decide), xup_c (show (72 : Nat) ≠ 59 by decide), xup_c (show (73 : Nat) ≠ 59 by decide), true_and]
    exact fun _ _ _ => trivial
  · rw [xup_c (by decide), xup_c (by decide), xup_c (by decide), xup_c (by decide), xup_o (by omega)]
    exact ⟨rfl, rfl, rfl, rfl, Int.le_refl _⟩
  · rw [xup_c (by decide), xup_c (by decide)]; exact ⟨rfl, rfl⟩
  · rw [xup_c (by decide), xup_c (by decide), xup_c (by decide), xup_c (by decide)]
    exact ⟨rfl, rfl, fun _ _ _ => rfl, fun _ _ _ => rfl⟩
theorem isP_43 {f p : Int} : isP (xup (xup M 59 43 m) 59 44 f) p ↔ isP M p := by unfold isP; rw [xup_o (by omega)]
theorem wfP_43 {f : Int} (h : wfP M) : wfP (xup (xup M 59 43 m) 59 44 f) := by
  unfold wfP isP pct prt
  simp only [xup_o (show (18 : Int) ≠ 43 ∧ (18 : Int) ≠ 44 by omega), xup_o (show (1 : Int) ≠ 43 ∧ (1 : Int) ≠ 44 by omega), xup_c (show (60 : Nat) ≠ 59 by decide), xup_c (show (61 : Nat) ≠ 59 by decide), xup_c (show (62 : Nat) ≠ 59 by decide), xup_c (show (68 : Nat) ≠ 59 by decide), xup_c (show (69 : Nat) ≠ 59 by decide), xup_c (show (70 : Nat) ≠ 59 by decide), xup_c (show (71 : Nat) ≠ 59 by decide), xup_c (show (72 : Nat) ≠ 59 by decide)]
  exact h
theorem wfT_43 {f : Int} (h : wfT M) : wfT (xup (xup M 59 43 m) 59 44 f) := by
  unfold wfT
  rw [xup_o (by omega), xup_c (by decide), xup_c (by decide), xup_c (by decide)]
  exact h
theorem wfV_43 {f : Int} (h : wfV M) : wfV (xup (xup M 59 43 m) 59 44 f) := by
  unfold wfV
  rw [xup_o (by omega), xup_c (show (63 : Nat) ≠ 59 by decide), xup_c (show (60 : Nat) ≠ 59 by decide), xup_c (show (61 : Nat) ≠ 59 by decide), xup_c (show (62 : Nat) ≠ 59 by decide)]
  refine ⟨h.1, fun t h0 h1 hp => ?_, h.2.2⟩
  obtain ⟨k, a, b⟩ := h.2.1 t h0 h1 hp
  exact ⟨k, a, by rw [mSz_c (cng_43 (m := m))]; exact b⟩
theorem wfM_43 {f : Int} (h : wfM M m) : wfM (xup (xup M 59 43 m) 59 44 f) m := by
  unfold wfM isP
  simp only [xup_o (show (18 : Int) ≠ 43 ∧ (18 : Int) ≠ 44 by omega), xup_o (show (1 : Int) ≠ 43 ∧ (1 : Int) ≠ 44 by omega), xup_c (show (75 : Nat) ≠ 59 by decide), xup_c (show (76 : Nat) ≠ 59 by decide), xup_c (show (77 : Nat) ≠ 59 by decide), xup_c (show (78 : Nat) ≠ 59 by decide), xup_c (show (69 : Nat) ≠ 59 by decide), xup_c (show (63 : Nat) ≠ 59 by decide)]
  exact h
theorem s_goTo {f a b c : Int} {Q : xM → Prop} (hs : RSh e) (hf : f = 0 ∨ f = 1) (hw : wfP M) (hm : wfM M m)
    (h : ∀ M', stt (xup (xup M 59 43 m) 59 44 f) M' → ndR M' 0 (M 75 m) 0 (rtL M m (M 77 m).toNat) → (∀ k, 0 ≤ k → k < M 75 m → M' 87 (0 + k) = k) → M' 59 42 = M 75 m → M' 59 35 = M 75 m → plc M' (M 75 m) (E0 M m) → (∀ q, 0 ≤ q → q < M 75 m → M' 93 q = pk3 q a b c) → M' 59 45 = 0 → agA (sg0 M) M' → R_node e (d + 1) 0 0 (M 75 m) M' Q) : R_goThrough e (d + 2) m f a b c M Q := by
  obtain ⟨m1, m2, m3, m4, m5⟩ := hm
  have hm : wfM M m := ⟨m1, m2, m3, m4, m5⟩
  refine t_goThrough (t_goThrough_0 hs (fun M1 e1 => ⟨hf, fun M2 e2 M3 e3 M4 e4 M5 e5 => ?_⟩))
  -- all but sums
  have o5 : ∀ c i, ¬ (c = 59 ∧ (i = 43 ∨ i = 44 ∨ i = 45 ∨ i = 46 ∨ i = 48)) → M5 c i = M c i := by
    intro c i hc
    rw [e5, xup_ap, if_neg (by omega), e4, xup_ap, if_neg (by omega), e3, xup_ap, if_neg (by omega), e2, xup_ap, if_neg (by omega), e1, xup_ap, if_neg (by omega)]
  have d5 : M5 59 43 = m ∧ M5 59 44 = f ∧ M5 59 45 = 0 ∧ M5 59 46 = 0 ∧ M5 59 48 = 0 := by
    refine ⟨?_, ?_, ?_, ?_, ?_⟩
    · rw [e5, xri (by decide), e4, xri (by decide), e3, xri (by decide), e2, xri (by decide), e1, xrs]
    · rw [e5, xri (by decide), e4, xri (by decide), e3, xri (by decide), e2, xrs]
    · rw [e5, xri (by decide), e4, xri (by decide), e3, xrs]
    · rw [e5, xri (by decide), e4, xrs]
    · rw [e5, xrs]
  refine for_up (fun k M' => R_goThrough_28 e (d + 1) m a b c k M' Q) (fun k M' => 0 ≤ k ∧ (∀ c i, c ≠ 94 → M' c i = M5 c i) ∧ ∀ j, 0 ≤ j → j < k → M' 94 j = 0) 5 ?_ ?_ 0 M5 (by omega) ⟨by omega, fun _ _ _ => rfl, fun j h0 h1 => by omega⟩
  · rintro k M' ⟨k0, kf, kn⟩ hlt hgo
    refine t_goThrough_28 hs ⟨⟨by omega, by omega⟩, fun z => absurd z (by omega), fun _ => ⟨by omega, fun M6 e6 => hgo M6 ⟨by omega, fun c i hc => ?_, fun j h0 h1 => ?_⟩⟩⟩
    · rw [e6, xrd hc]; exact kf c i hc
    · by_cases hj : j = k
      · rw [hj, e6, xrs]
      · rw [e6, xri (by omega)]; exact kn j h0 (by omega)
  · rintro M' ⟨-, kf, kn⟩
    refine t_goThrough_28 hs ⟨⟨by omega, by omega⟩, fun _ M6 e6 M7 e7 M8 e8 => ⟨m1, fun M9 e9 => ?_⟩, fun z => absurd (by omega) z⟩
    have g75 : M8 75 m = M 75 m := by rw [e8, xrd (by decide), e7, xrd (by decide), e6, xrd (by decide), kf 75 m (by decide)]; exact o5 75 m (by omega)
    rw [g75] at e9
    have o9 : ∀ c i, c ≠ 94 → ¬ (c = 59 ∧ (i = 31 ∨ i = 33 ∨ i = 35 ∨ i = 42)) → M9 c i = M5 c i := by
      intro c i hc hi
      rw [e9, xup_ap, if_neg (by omega), e8, xup_ap, if_neg (by omega), e7, xup_ap, if_neg (by omega), e6, xup_ap, if_neg (by omega)]
      exact kf c i hc
    have d9 : M9 59 31 = 0 ∧ M9 59 33 = 0 ∧ M9 59 35 = M 75 m ∧ M9 59 42 = 0 := by
      refine ⟨?_, ?_, ?_, ?_⟩
      · rw [e9, xri (by decide), e8, xri (by decide), e7, xri (by decide), e6, xrs]
      · rw [e9, xri (by decide), e8, xri (by decide), e7, xrs]
      · rw [e9, xrs]
      · rw [e9, xri (by decide), e8, xrs]
    have z9 : ∀ j, 0 ≤ j → j < 5 → M9 94 j = 0 := by
      intro j h0 h1
      rw [e9, xrd (by decide), e8, xrd (by decide), e7, xrd (by decide), e6, xrd (by decide)]; exact kn j h0 h1
    -- the places
    refine for_up (fun k M' => R_goThrough_76 e (d + 1) m a b c k M' Q) (fun k M' => 0 ≤ k ∧ M' 59 42 = k ∧ (∀ j, 0 ≤ j → j < k → M' 87 j = j ∧ M' 88 j = M 76 (3 * m + j) ∧ M' 89 j = 0 ∧ M' 93 j = pk3 j a b c) ∧ (∀ c i, c ≠ 87 → c ≠ 88 → c ≠ 89 → c ≠ 93 → ¬ (c = 59 ∧ i = 42) → M' c i = M9 c i)) (M 75 m) ?_ ?_ 0 M9 (by omega) ⟨by omega, d9.2.2.2, fun j h0 h1 => by omega, fun _ _ _ _ _ _ _ => rfl⟩
    · rintro k M' ⟨k0, k42, kn, kf⟩ hlt hgo
      have f75 : M' 75 m = M 75 m := by rw [kf 75 m (by decide) (by decide) (by decide) (by decide) (by omega), o9 75 m (by decide) (by omega)]; exact o5 75 m (by omega)
      have f76 : M' 76 (3 * m + k) = M 76 (3 * m + k) := by rw [kf 76 _ (by decide) (by decide) (by decide) (by decide) (by omega), o9 76 _ (by decide) (by omega)]; exact o5 76 _ (by omega)
      refine t_goThrough_76 hs ?_
      rw [f75, f76]
      refine ⟨m1, ⟨⟨by omega, by omega⟩, ⟨by omega, by omega⟩⟩, fun z => absurd z (by omega), fun _ => ⟨by omega, s_pick (by exact ⟨by omega, by omega⟩) (s_newPlace hs (by omega) ⟨by omega, fun M10 e10 => ?_⟩)⟩⟩
      refine hgo M10 ⟨by omega, ?_, fun j h0 h1 => ?_, fun c i h1 h2 h3 h4 h5 => ?_⟩
      · rw [e10, xrd (by decide)]; unfold nwP; rw [xrs]; omega
      · by_cases hj : j = k
        · subst hj
          rw [e10]
          unfold nwP
          rw [k42]
          refine ⟨xrs, ?_, ?_, ?_⟩
          · rw [xrd (by decide), xrd (by decide), xrd (by decide), xrd (by decide), xrs]
          · rw [xrd (by decide), xrd (by decide), xrd (by decide), xrs]
          · rw [xrd (by decide), xrd (by decide), xrs]
        · rw [e10]
          unfold nwP
          rw [k42]
          obtain ⟨u1, u2, u3, u4⟩ := kn j h0 (by omega)
          refine ⟨?_, ?_, ?_, ?_⟩
          · rw [xri hj, xrd (by decide), xrd (by decide), xrd (by decide), xrd (by decide)]; exact u1
          · rw [xrd (by decide), xrd (by decide), xrd (by decide), xrd (by decide), xri hj]; exact u2
          · rw [xrd (by decide), xrd (by decide), xrd (by decide), xri hj, xrd (by decide)]; exact u3
          · rw [xrd (by decide), xrd (by decide), xri hj, xrd (by decide), xrd (by decide)]; exact u4
      · rw [e10, xrd h1]
        unfold nwP
        rw [xup_ap, if_neg h5, xrd h4, xrd h3, xrd h2]
        exact kf c i h1 h2 h3 h4 h5
    · rintro M' ⟨k0, k42, kn, kf⟩
      have f75 : M' 75 m = M 75 m := by rw [kf 75 m (by decide) (by decide) (by decide) (by decide) (by omega), o9 75 m (by decide) (by omega)]; exact o5 75 m (by omega)
      refine t_goThrough_76 hs ?_
      rw [f75]
      refine ⟨m1, ⟨⟨by omega, by omega⟩, ⟨by omega, by omega⟩⟩, fun _ => ?_, fun z => absurd (by omega) z⟩
      have st1 : stt (xup (xup M 59 43 m) 59 44 f) M' := by
        intro c i hc
        rw [kf c i (by omega) (by omega) (by omega) (by omega) (by omega), o9 c i (by omega) (by omega)]
        by_cases z : c = 59 ∧ (i = 43 ∨ i = 44)
        · obtain ⟨z1, z2⟩ := z
          subst z1
          rcases z2 with z2 | z2
          · subst z2; rw [d5.1, xri (by decide), xrs]
          · subst z2; rw [d5.2.1, xrs]
        · rw [o5 c i (by omega), xup_ap, if_neg (by omega), xup_ap, if_neg (by omega)]
      have hwD := wfP_43 (m := m) (f := f) hw
      have hmD := wfM_43 (f := f) hm
      have hc := cng_43 (M := M) (m := m) (f := f)
      have hroot := root_c hw hm hc
      have eL : ∀ n : Nat, (n : Int) ≤ M 77 m → rtL (xup (xup M 59 43 m) 59 44 f) m n = rtL M m n := by
        intro n
        have h1 : ∀ (p : Int), isP M p → lF (xup (xup M 59 43 m) 59 44 f) p = lF M p := fun p hp => lF_c hw hc (Or.inl hp)
        have h2 : ∀ (p a : Int), isP M p → tF (xup (xup M 59 43 m) 59 44 f) p a = tF M p a := fun p a hp => tF_c hw hc (Or.inl hp)
        induction n with
        | zero => intro _; rfl
        | succ n ih =>
          intro hn
          unfold rtL
          rw [ih (by omega)]
          congr 2
          unfold rtR
          rw [xup_c (by decide), xup_c (by decide)]
          have e1 : (fun k => if 0 ≤ k ∧ k < M 75 m then lF (xup (xup M 59 43 m) 59 44 f) (M 78 (36 * m + 3 * n + k)) else -1) = (fun k => if 0 ≤ k ∧ k < M 75 m then lF M (M 78 (36 * m + 3 * n + k)) else -1) := by
            funext k
            by_cases z : 0 ≤ k ∧ k < M 75 m
            · rw [if_pos z, if_pos z, h1 _ (m5 n k (by omega) (by omega) z.1 z.2).1]
            · rw [if_neg z, if_neg z]
          have e2 : ∀ (j : Nat) (a : Int), (j : Int) ≤ M 75 m → rtN (xup (xup M 59 43 m) 59 44 f) m n j a = rtN M m n j a := by
            intro j
            induction j with
            | zero => intro a _; rfl
            | succ j ihj =>
              intro a hj
              unfold rtN
              rw [xup_c (by decide), h2 _ a (m5 n j (by omega) (by omega) (by omega) (by omega)).1, ihj a (by omega)]
          rw [e1]
          congr 2
          funext a
          exact e2 _ a (by omega)
      -- the rows
      have rowsL : ∀ (j r : Nat) (M2 : xM), (r : Int) + j = M 77 m → frS 0 0 M' M2 → ndR M2 0 (M 75 m) 0 (rtL (xup (xup M 59 43 m) 59 44 f) m r) → R_goThrough_128 e (d + 1) m r M2 Q := by
        intro j
        induction j with
        | zero =>
          intro r M2 hr hfr hn
          have g75 : M2 75 m = M 75 m := by rw [frS_c hfr 75 (by omega)]; exact f75
          have g77 : M2 77 m = M 77 m := by rw [frS_c hfr 77 (by omega), st1 77 m (by omega), xup_c (by decide)]
          refine t_goThrough_128 hs ?_
          rw [g75, g77]
          refine ⟨m1, ⟨⟨by omega, by omega⟩, ⟨by omega, by omega⟩⟩, fun _ => ⟨m1, ?_⟩, fun z => absurd (by omega) z⟩
          have hrr : r = (M 77 m).toNat := by omega
          subst hrr
          rw [eL _ (by omega)] at hn
          refine h M2 ?_ hn (fun k h0 h1 => ?_) ?_ ?_ ?_ (fun q h0 h1 => ?_) ?_ ?_
          · intro c i hc
            rw [hfr c i ⟨by omega, by omega, by omega, by omega, by omega⟩]; exact st1 c i hc
          · rw [frS_c hfr 87 (by omega), Int.zero_add]; exact (kn k h0 h1).1
          · rw [frS_o hfr 42 (by omega)]; exact k42
          · rw [frS_o hfr 35 (by omega), kf 59 35 (by decide) (by decide) (by decide) (by decide) (by omega)]; exact d9.2.2.1
          · intro q h0 h1
            obtain ⟨u1, u2, u3, u4⟩ := kn q h0 h1
            rw [frS_c hfr 88 (by omega), frS_c hfr 89 (by omega)]
            have x88 : E0 M m 88 q = M 76 (3 * m + q) := by unfold E0; rw [if_pos ⟨rfl, by omega, by omega⟩]
            have x89 : E0 M m 89 q = 0 := by unfold E0; rw [if_neg (fun z => absurd z.1 (by decide))]
            rw [x88, x89]
            exact ⟨u2, u3, fun z => by omega⟩
          · rw [frS_c hfr 93 (by omega)]; exact (kn q h0 h1).2.2.2
          · rw [frS_o hfr 45 (by omega), kf 59 45 (by decide) (by decide) (by decide) (by decide) (by omega), o9 59 45 (by decide) (by omega)]; exact d5.2.2.1
          · intro c i hc
            unfold acC at hc
            rw [hfr c i ⟨by omega, by omega, by omega, by omega, by omega⟩, kf c i (by omega) (by omega) (by omega) (by omega) (by omega)]
            unfold sg0
            by_cases z : c = 94
            · subst z
              rw [if_pos rfl]
              exact z9 i (by omega) (by omega)
            · rw [if_neg z, o9 c i z (by omega)]
              by_cases z2 : c = 59 ∧ (i = 46 ∨ i = 48)
              · rw [if_pos z2]
                obtain ⟨y1, y2⟩ := z2
                subst y1
                rcases y2 with y2 | y2
                · subst y2; exact d5.2.2.2.1
                · subst y2; exact d5.2.2.2.2
              · rw [if_neg z2]; exact o5 c i (by omega)
        | succ j ih =>
          intro r M2 hr hfr hn
          have g75 : M2 75 m = M 75 m := by rw [frS_c hfr 75 (by omega)]; exact f75
          have g77 : M2 77 m = M 77 m := by rw [frS_c hfr 77 (by omega), st1 77 m (by omega), xup_c (by decide)]
          have n1 := hn.1
          rw [rtL_len] at n1
          refine t_goThrough_128 hs ?_
          rw [g75, g77]
          refine ⟨m1, ⟨⟨by omega, by omega⟩, ⟨by omega, by omega⟩⟩, fun z => absurd z (by omega), fun _ => ⟨m1, s_pushRow hs (by omega) ?_⟩⟩
          refine s_go156 (D := xup (xup M 59 43 m) 59 44 f) hs hwD hmD ?_ (by rw [xup_c (by decide)]) (fun k h0 h1 => by rw [frS_c hfr 87 (by omega)]; exact (kn k h0 h1).1) (by rw [xup_c (by decide)]; omega) hn (fun M3 hn3 hfr3 => ?_)
          · intro c i hc
            rw [hfr c i ⟨by omega, by omega, by omega, by omega, by omega⟩]; exact st1 c i hc
          · exact ih (r + 1) M3 (by omega) (frS_trans hfr hfr3) hn3
      have e31 : M' 59 31 = 0 := by rw [kf 59 31 (by decide) (by decide) (by decide) (by decide) (by omega)]; exact d9.1
      have e33 : M' 59 33 = 0 := by rw [kf 59 33 (by decide) (by decide) (by decide) (by decide) (by omega)]; exact d9.2.1
      refine rowsL (M 77 m).toNat 0 M' (by omega) frS_refl ⟨by rw [e31]; rfl, by rw [e33]; simp [rtL], fun i hi => by simp [rtL] at hi, fun i q hq => by simp [rtL] at hq⟩
/-- a tree is gone through, all of it -/
theorem s_goA {a b c : Int} {Q : xM → Prop} (hs : RSh e) (hd : 1000 ≤ d) (ht : tOK M m)
    (h : ∀ M', frG M M' → ((M' 59 45 = 1 ∧ fin_ M m 120 [root M m] = none) ∨ (M' 59 45 = 0 ∧ ∃ evs, fin_ M m 120 [root M m] = some evs ∧ agA (evs.foldl (app M m) (sg0 M)) M')) → Q M') : R_goThrough e d m 0 a b c M Q := by
  obtain ⟨d1, rfl⟩ : ∃ d1, d = d1 + 2 := ⟨d - 2, by omega⟩
  obtain ⟨t1, t2, t3, t4, t5⟩ := ht
  have hc := cng_43 (M := M) (m := m) (f := 0)
  have m1 := t4.1
  have m2 := t4.2.1
  refine s_goTo hs (Or.inl rfl) t1 t4 ?_
  intro M' st hn h87 h42 h35 hp h93 h45 hag
  have e43 : xup (xup M 59 43 m) 59 44 0 59 43 = m := by rw [xri (by decide), xrs]
  have hwf := root_wf (wfP_43 (m := m) (f := 0) t1) (wfM_43 (f := 0) t4)
  have hroot := root_c t1 t4 hc
  have hE0 : E0 (xup (xup M 59 43 m) 59 44 0) m = E0 M m := by unfold E0; rw [xup_c (by decide)]
  have hrt : rtL (xup (xup M 59 43 m) 59 44 0) m (M 77 m).toNat = rtL M m (M 77 m).toNat := by
    have := congrArg (fun x : aN => x.2.2.2.2) hroot
    unfold root at this
    rw [xup_c (by decide)] at this
    exact this
  have hoE := root_okE (wfM_43 (f := 0) t4)
  rw [hE0, xup_c (by decide)] at hoE
  rw [hE0, xup_c (by decide), xup_c (by decide), hrt] at hwf
  have hgo := s_node hs (D := xup (xup M 59 43 m) 59 44 0) ⟨wfP_43 t1, wfT_43 t2, wfV_43 t3, by rw [e43]; exact m1, by rw [e43, xup_c (by decide)]; omega, by rw [xup_c (by decide)]; exact t5⟩ xrs 120
  refine hgo (d1 + 1) 0 0 0 (M 75 m) (M 75 m) (fun k => k) (M 75 m) (E0 M m) (rtL M m (M 77 m).toNat) (sg0 M) M' Q (by omega) st hn h87 h42 h35 hp ⟨by omega, by omega, by omega, by omega, by omega, by omega⟩ hwf hoE (by rw [e43, xup_c (by decide)]; exact Int.le_refl _) h45 hag (by unfold sg0; rw [if_neg (by decide), if_pos ⟨rfl, by omega⟩]; rfl) (Or.inl (by unfold sg0; rw [if_neg (by decide), if_pos ⟨rfl, by omega⟩])) ?_
  intro M2 fr2 _ _ _ _ alt
  rw [e43] at alt
  have hfin : ∀ n rest, (∀ x ∈ rest, False) → fin_ (xup (xup M 59 43 m) 59 44 0) m n ([(M 75 m, fun k => k, M 75 m, E0 M m, rtL M m (M 77 m).toNat)] ++ rest) = fin_ M m n [root M m] := by
    intro n rest hr
    have : rest = [] := by
      cases rest with
      | nil => rfl
      | cons x rest => exact absurd (hr x (by simp)) id
    subst this
    rw [List.append_nil]
    refine fin_c t1 t2 hc n _ (fun x hx => ?_)
    have : x = (M 75 m, fun k => k, M 75 m, E0 M m, rtL M m (M 77 m).toNat) := by simpa using hx
    subst this
    exact root_wf t1 t4
  refine h M2 ?_ ?_
  · intro c i hc
    rw [fr2 c i ⟨by omega, by omega, by omega, by omega, by omega, by omega, by omega, by omega, by omega⟩, st c i (by omega)]
    rw [xup_ap, if_neg (by omega), xup_ap, if_neg (by omega)]
  · rcases alt with z | ⟨z1, evs, z2, z3, z4, z5, z6⟩
    · exact Or.inl ⟨z.1, by rw [← hfin 120 [] (fun x hx => by cases hx)]; exact z.2 []⟩
    · refine Or.inr ⟨z1, evs, ?_, ?_⟩
      · rw [← hfin 120 [] (fun x hx => by cases hx), z6 [], fin_nil]; simp
      · rw [app_c hc] at z3; exact z3
end RLK
