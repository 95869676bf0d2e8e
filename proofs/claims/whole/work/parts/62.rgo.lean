/-! ===== the reference goes through a tree from its root ===== -/
def E0 (D : xM) (m : Int) : xM := fun c i => if c = 88 ∧ 0 ≤ i ∧ i < 3 then D 76 (3 * m + i) else 0
noncomputable def rtN (D : xM) (m r : Int) : Nat → Int → Int
  | 0, _ => -1
  | k + 1, a => if tF D (D 78 (36 * m + 3 * r + k)) a = true then k else rtN D m r k a
noncomputable def rtR (D : xM) (m r : Int) : aR := (r, fun k => if 0 ≤ k ∧ k < D 75 m then lF D (D 78 (36 * m + 3 * r + k)) else -1, rtN D m r (D 75 m).toNat)
noncomputable def rtL (D : xM) (m : Int) : Nat → List aR
  | 0 => []
  | n + 1 => rtL D m n ++ [rtR D m n]
/-- the tree's root -/
noncomputable def root (D : xM) (m : Int) : aN := (D 75 m, fun k => k, D 75 m, E0 D m, rtL D m (D 77 m).toNat)
theorem rtL_len {D : xM} {m : Int} : ∀ n, (rtL D m n).length = n := by
  intro n
  induction n with
  | zero => rfl
  | succ n ih => unfold rtL; rw [List.length_append, ih]; rfl
/-- a match is in order -/
def wfM (D : xM) (m : Int) : Prop := (0 ≤ m ∧ m < 20) ∧ (1 ≤ D 75 m ∧ D 75 m ≤ 3) ∧ (0 ≤ D 77 m ∧ D 77 m ≤ 12) ∧ (∀ k, 0 ≤ k → k < D 75 m → 0 ≤ D 76 (3 * m + k) ∧ D 76 (3 * m + k) < D 59 1 ∧ 0 < D 63 (D 76 (3 * m + k))) ∧ ∀ r k, 0 ≤ r → r < D 77 m → 0 ≤ k → k < D 75 m → isP D (D 78 (36 * m + 3 * r + k)) ∧ D 69 (D 78 (36 * m + 3 * r + k)) = D 76 (3 * m + k)
section RGO
variable {e : yE} {d : Nat} {D M : xM} {m : Int}
theorem rtN_is {r : Int} : ∀ (n : Nat) (a : Int), rtN D m r n a = -1 ∨ (0 ≤ rtN D m r n a ∧ rtN D m r n a < n) := by
  intro n
  induction n with
  | zero => intro a; exact Or.inl rfl
  | succ n ih =>
    intro a
    unfold rtN
    split
    · right; omega
    · rcases ih a with z | z
      · exact Or.inl z
      · right; omega
theorem rtL_mem {r : aR} : ∀ n : Nat, r ∈ rtL D m n → ∃ i : Nat, i < n ∧ r = rtR D m i := by
  intro n
  induction n with
  | zero => intro h; cases h
  | succ n ih =>
    intro h
    unfold rtL at h
    rcases List.mem_append.mp h with h | h
    · obtain ⟨i, h1, h2⟩ := ih h
      exact ⟨i, by omega, h2⟩
    · have : r = rtR D m n := by simpa using h
      exact ⟨n, by omega, this⟩
theorem root_wf (hw : wfP D) (hm : wfM D m) : wfN D (D 75 m) (fun k => k) (D 75 m) (E0 D m) (rtL D m (D 77 m).toNat) := by
  obtain ⟨m1, m2, m3, m4, m5⟩ := hm
  refine ⟨⟨by omega, by omega, fun k h0 h1 => ⟨⟨h0, h1⟩, ?_, ?_⟩, fun j k _ _ _ _ h => h⟩, fun r hr => ?_, by rw [rtL_len]; omega⟩
  · show E0 D m 89 k = 0
    unfold E0; rw [if_neg (fun z => absurd z.1 (by decide))]
  · show 0 ≤ E0 D m 88 k ∧ E0 D m 88 k < D 59 1
    unfold E0; rw [if_pos ⟨rfl, by omega, by omega⟩]; exact ⟨(m4 k h0 h1).1, (m4 k h0 h1).2.1⟩
  · obtain ⟨i, hi, rfl⟩ := rtL_mem _ hr
    refine ⟨fun k h0 h1 => ?_, by show 0 ≤ (i : Int) ∧ (i : Int) < 12; omega, fun a _ _ => ?_⟩
    · obtain ⟨p1, p2⟩ := m5 i k (by omega) (by omega) h0 h1
      have e1 : (rtR D m i).2.1 k = lF D (D 78 (36 * m + 3 * i + k)) := by
        show (if 0 ≤ k ∧ k < D 75 m then _ else _) = _
        rw [if_pos ⟨h0, h1⟩]
      have e2 : E0 D m 88 k = D 76 (3 * m + k) := by unfold E0; rw [if_pos ⟨rfl, by omega, by omega⟩]
      rw [e1, e2]
      rcases lF_T hw p1 with z | ⟨z1, z2, z3, z4⟩
      · exact Or.inl z
      · exact Or.inr ⟨z1, z2, z3, by rw [z4, p2]⟩
    · have := rtN_is (D := D) (m := m) (r := i) (D 75 m).toNat a
      show rtN D m i (D 75 m).toNat a = -1 ∨ (0 ≤ rtN D m i (D 75 m).toNat a ∧ rtN D m i (D 75 m).toNat a < D 75 m)
      omega
theorem root_okE (hm : wfM D m) : okE D (D 75 m) (E0 D m) := by
  obtain ⟨m1, m2, m3, m4, m5⟩ := hm
  intro q q0 q1
  have e2 : E0 D m 88 q = D 76 (3 * m + q) := by unfold E0; rw [if_pos ⟨rfl, by omega, by omega⟩]
  have e3 : E0 D m 89 q = 0 := by unfold E0; rw [if_neg (fun z => absurd z.1 (by decide))]
  rw [e2, e3]
  exact ⟨m4 q q0 q1, Or.inl rfl, fun z => by omega⟩
theorem root_c {D' : xM} (hw : wfP D) (hm : wfM D m) (h : cng D D' m) : root D' m = root D m := by
  obtain ⟨m1, m2, m3, m4, m5⟩ := hm
  obtain ⟨c1, c2, c3, c4⟩ := h.2.2.2.2
  have e0 : E0 D' m = E0 D m := by
    funext c i
    unfold E0
    by_cases z : c = 88 ∧ 0 ≤ i ∧ i < 3
    · rw [if_pos z, if_pos z, c3 i z.2.1 z.2.2]
    · rw [if_neg z, if_neg z]
  have hp : ∀ (r : Nat) (k : Int), (r : Int) < D 77 m → 0 ≤ k → k < D 75 m → D' 78 (36 * m + 3 * r + k) = D 78 (36 * m + 3 * r + k) ∧ isP D (D 78 (36 * m + 3 * r + k)) := by
    intro r k h1 h2 h3
    have := c4 (3 * r + k) (by omega) (by omega)
    rw [show 36 * m + (3 * (r : Int) + k) = 36 * m + 3 * r + k by omega] at this
    exact ⟨this, (m5 r k (by omega) h1 h2 h3).1⟩
  have eL : ∀ n : Nat, (n : Int) ≤ D 77 m → rtL D' m n = rtL D m n := by
    intro n
    induction n with
    | zero => intro _; rfl
    | succ n ih =>
      intro hn
      unfold rtL
      rw [ih (by omega)]
      congr 2
      unfold rtR
      rw [c1]
      have e1 : (fun k => if 0 ≤ k ∧ k < D 75 m then lF D' (D' 78 (36 * m + 3 * n + k)) else -1) = (fun k => if 0 ≤ k ∧ k < D 75 m then lF D (D 78 (36 * m + 3 * n + k)) else -1) := by
        funext k
        by_cases z : 0 ≤ k ∧ k < D 75 m
        · obtain ⟨u, v⟩ := hp n k (by omega) z.1 z.2
          rw [if_pos z, if_pos z, u, lF_c hw h (Or.inl v)]
        · rw [if_neg z, if_neg z]
      have e2 : ∀ (j : Nat) (a : Int), (j : Int) ≤ D 75 m → rtN D' m n j a = rtN D m n j a := by
        intro j
        induction j with
        | zero => intro a _; rfl
        | succ j ihj =>
          intro a hj
          unfold rtN
          obtain ⟨u, v⟩ := hp n j (by omega) (by omega) (by omega)
          rw [u, tF_c hw h (Or.inl v), ihj a (by omega)]
      rw [e1]
      congr 2
      funext a
      exact e2 _ a (by omega)
  unfold root
  rw [c1, c2, e0, eL _ (by omega)]
theorem s_patternOf {x1 x2 x3 : Int} {Q : Int → xM → Prop} (hs : RSh e) (h1 : 0 ≤ 36 * x1 + 3 * x2 + x3 ∧ 36 * x1 + 3 * x2 + x3 < 720) (h : Q (M 78 (36 * x1 + 3 * x2 + x3)) M) : R_patternOf e (d + 1) x1 x2 x3 M Q := t_patternOf (t_patternOf_0 hs ⟨h1, h⟩)
/-- one row of the root -/
theorem s_go156 {Q : xM → Prop} {Mx : xM} {r : Nat} {w : Int} (hs : RSh e) (hw : wfP D) (hm : wfM D m) (hst : stt D Mx) (hwd : w = D 75 m) (h87 : ∀ k, 0 ≤ k → k < w → Mx 87 k = k) (hr : (r : Int) < D 77 m) (hn : ndR Mx 0 w 0 (rtL D m r))
    (h : ∀ M', ndR M' 0 w 0 (rtL D m (r + 1)) → frS 0 0 Mx M' → R_goThrough_128 e (d + 1) m (r + 1) M' Q) :
    R_goThrough_156 e (d + 1) m r (Mx 59 31) 0 (pshR Mx r w) Q := by
  obtain ⟨m1, m2, m3, m4, m5⟩ := hm
  obtain ⟨n1, n2, n3, n4⟩ := hn
  rw [rtL_len] at n1 n2 n3
  have hm1 := mul_0 (i := r) (w := w) (by omega)
  have hm2 := mul_le (i := r) (j := 12) (w := w) (by omega) (by omega)
  have hm3 : ((12 : Nat) : Int) * w = 12 * w := rfl
  obtain ⟨M1, hM1⟩ : ∃ z : xM, z = pshR Mx r w := ⟨_, rfl⟩
  rw [← hM1]
  have p59 : M1 59 31 = r + 1 := by rw [hM1]; unfold pshR; rw [xrs]; omega
  have p33 : M1 59 33 = (r : Int) * w + w := by rw [hM1]; unfold pshR; rw [xri (by decide), xrs]; omega
  have p84 : M1 84 = xup Mx 84 (Mx 59 31) (Mx 59 33) 84 := by
    rw [hM1]; unfold pshR; rw [xrd (by decide), xrd (by decide)]
    funext i; simp [xup_ap]
  have p83 : M1 83 = xup Mx 83 (Mx 59 31) r 83 := by rw [hM1]; unfold pshR; rw [xrd (by decide), xrd (by decide), xrd (by decide)]
  have po : ∀ c, c ≠ 59 → c ≠ 83 → c ≠ 84 → M1 c = Mx c := by
    intro c h1 h2 h3
    rw [hM1]; unfold pshR; rw [xrd h1, xrd h1, xrd h3, xrd h2]
  have frM : frS 0 0 Mx M1 := by
    rw [hM1]; unfold pshR
    refine frS_up (frS_up (frS_up (frS_up frS_refl ?_) ?_) ?_) ?_
    · exact fun z => absurd (z.2.1 rfl) (by omega)
    · exact fun z => absurd (z.2.2.1 rfl) (by omega)
    · exact fun z => z.1 ⟨rfl, Or.inr rfl⟩
    · exact fun z => z.1 ⟨rfl, Or.inl rfl⟩
  have hmk : Mx 59 31 = (r : Int) := by omega
  rw [hmk] at p84 p83 ⊢
  have p84m : M1 84 r = (r : Int) * w := by rw [p84, xrs]; omega
  refine for_up (fun k M' => R_goThrough_156 e (d + 1) m r r k M' Q) (fun k M' => 0 ≤ k ∧ (∀ a, 0 ≤ a → a < k → M' 85 (16 * (r : Int) + a) = -1) ∧ (∀ c i, ¬ (c = 85 ∧ 16 * (r : Int) ≤ i) → M' c i = M1 c i)) 16 ?_ ?_ 0 M1 (by omega) ⟨by omega, fun a h0 h1 => by omega, fun _ _ _ => rfl⟩
  · rintro k M' ⟨k0, an, afr⟩ hlt hgo
    refine t_goThrough_156 hs ⟨⟨by omega, by omega⟩, fun c => absurd c (by omega), fun _ => ⟨by omega, fun M2 e2 => hgo M2 ⟨by omega, fun a h0 h1 => ?_, fun c i hc => ?_⟩⟩⟩
    · by_cases ha : a = k
      · rw [ha, e2, xrs]
      · rw [e2, xri (by omega)]; exact an a h0 (by omega)
    · rw [e2, xup_ap, if_neg (by omega)]; exact afr c i hc
  · rintro M' ⟨k0, an, afr⟩
    refine t_goThrough_156 hs ⟨⟨by omega, by omega⟩, fun _ => ?_, fun c => absurd (by omega) c⟩
    refine for_up (fun k M2 => R_goThrough_186 e (d + 1) m r r k M2 Q) (fun k M2 => 0 ≤ k ∧ (∀ a, 0 ≤ a → a < 16 → M2 85 (16 * (r : Int) + a) = rtN D m r k.toNat a) ∧ (∀ j, 0 ≤ j → j < k → M2 86 ((r : Int) * w + j) = lF D (D 78 (36 * m + 3 * r + j))) ∧ (∀ c i, ¬ (c = 85 ∧ 16 * (r : Int) ≤ i) → ¬ (c = 86 ∧ (r : Int) * w ≤ i) → M2 c i = M1 c i)) w ?_ ?_ 0 M' (by omega) ⟨by omega, fun a h0 h1 => an a h0 h1, fun j h0 h1 => by omega, fun c i h1 _ => afr c i h1⟩
    · rintro k M2 ⟨k0', bn, bc, bfr⟩ hlt hgo
      have gst : ∀ c, 59 < c ∧ c < 83 → M2 c = D c := by
        intro c hc
        funext i
        rw [bfr c i (by omega) (by omega), po c (by omega) (by omega) (by omega)]; exact hst c i (by omega)
      have g75 : M2 75 m = w := by rw [gst 75 (by omega)]; exact hwd.symm
      have g84 : M2 84 r = (r : Int) * w := by rw [bfr 84 _ (by omega) (by omega)]; exact p84m
      have g87 : M2 87 k = k := by rw [bfr 87 _ (by omega) (by omega), po 87 (by decide) (by decide) (by decide)]; exact h87 k k0' hlt
      obtain ⟨q1, q2⟩ := m5 r k (by omega) hr k0' (by omega)
      refine t_goThrough_186 hs ?_
      rw [g75]
      refine ⟨m1, ⟨⟨by omega, by omega⟩, ⟨by omega, by omega⟩⟩, fun c => absurd c (by omega), fun _ => s_patternOf hs (by omega) ?_⟩
      rw [gst 78 (by omega), g87]
      refine ⟨by omega, s_setCell hs hw (by omega) (Or.inr q1) (gst 68 (by omega)) (gst 70 (by omega)) (gst 71 (by omega)) (by rw [g84]; omega) ?_⟩
      rw [g84]
      refine hgo _ ⟨by omega, fun a a0 a1 => ?_, fun j j0 j1 => ?_, fun c i hc hc2 => ?_⟩
      · rw [xrd (by decide), show (k + 1).toNat = k.toNat + 1 by omega]
        unfold stN rtN
        rw [show ((k.toNat : Nat) : Int) = k by omega, show 16 * (r : Int) + a - 16 * r = a by omega]
        by_cases ht : tF D (D 78 (36 * m + 3 * r + k)) a = true
        · rw [if_pos ht, if_pos ⟨rfl, by omega, ht⟩]
        · rw [if_neg ht, if_neg (fun z => ht z.2.2), bn a a0 a1]
      · by_cases hj : j = k
        · rw [hj, xrs]
        · rw [xri (by omega), stN_ne (by decide)]; exact bc j j0 (by omega)
      · rw [xup_ap, if_neg (fun z => hc2 ⟨z.1, by omega⟩)]
        unfold stN
        rw [if_neg (fun z => hc ⟨z.1, by omega⟩)]
        exact bfr c i hc hc2
    · rintro M2 ⟨k0', bn, bc, bfr⟩
      have g75 : M2 75 m = w := by rw [bfr 75 _ (by omega) (by omega), po 75 (by decide) (by decide) (by decide), hst 75 m (by omega)]; exact hwd.symm
      refine t_goThrough_186 hs ?_
      rw [g75]
      refine ⟨m1, ⟨⟨by omega, by omega⟩, ⟨by omega, by omega⟩⟩, fun _ => h M2 ⟨?_, ?_, ?_, ?_⟩ ?_, fun c => absurd (by omega) c⟩
      · rw [bfr 59 31 (by omega) (by omega), p59, rtL_len]; omega
      · rw [bfr 59 33 (by omega) (by omega), p33, rtL_len, mul_S]; omega
      · intro i hi
        rw [rtL_len] at hi
        rw [bfr 84 _ (by omega) (by omega), p84]
        by_cases hi2 : i = r
        · rw [hi2, show (0 : Int) + (r : Int) = r by omega, xrs]; omega
        · rw [xri (by omega)]; exact n3 i (by omega)
      · intro i q hq
        unfold rtL at hq
        by_cases hi2 : i = r
        · rw [hi2, List.getElem?_append_right (by rw [rtL_len]; omega), rtL_len, Nat.sub_self] at hq
          have hq : rtR D m r = q := Option.some.inj hq
          subst hq
          rw [hi2, show (0 : Int) + (r : Int) = r by omega]
          refine ⟨?_, ?_, ?_⟩
          · rw [bfr 83 _ (by omega) (by omega), p83, xrs]; rfl
          · intro k h0 h1
            rw [bfr 84 _ (by omega) (by omega), p84m, bc k h0 h1]
            show _ = (if 0 ≤ k ∧ k < D 75 m then _ else _)
            rw [if_pos ⟨h0, by omega⟩]
          · intro a h0 h1
            rw [bn a h0 h1, hwd]; rfl
        · have hi3 : i < r := by
            rcases Nat.lt_or_ge i (rtL D m r ++ [rtR D m r]).length with h | h
            · rw [List.length_append, rtL_len, List.length_singleton] at h; omega
            · rw [List.getElem?_eq_none h] at hq; cases hq
          rw [List.getElem?_append_left (by rw [rtL_len]; exact hi3)] at hq
          obtain ⟨b1, b2, b3⟩ := n4 i q hq
          have c1 := n3 i hi3
          have hm4 := mul_st (i := i) (j := r) (w := w) hi3 (by omega)
          refine ⟨?_, ?_, ?_⟩
          · rw [bfr 83 _ (by omega) (by omega), p83, xri (by omega)]; exact b1
          · intro k h0 h1
            rw [bfr 84 _ (by omega) (by omega), p84, xri (by omega), bfr 86 _ (by omega) (by omega), po 86 (by decide) (by decide) (by decide)]; exact b2 k h0 h1
          · intro a h0 h1
            rw [bfr 85 _ (by omega) (by omega), po 85 (by decide) (by decide) (by decide)]; exact b3 a h0 h1
      · intro c i k
        rw [bfr c i (fun z => by have := k.2.2.2.1 z.1; omega) (fun z => by have := k.2.2.2.2 z.1; omega)]
        exact frM c i k
end RGO
