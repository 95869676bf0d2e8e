/-! ===== the class: a node that tests nothing ===== -/
section CEN
variable {e : yE} {d : Nat} {D : xM} {t : Nat} {π nam : Int → Int} {i : Int}
theorem s_tellNames {M : xM} {Q : xM → Prop} {cs cl : Nat} {l : List (Int × Int)} {c : Int} (hs : CSh e) (hT : hTr e M t) (hP : hpP e M cs cl) (hi : 0 ≤ i ∧ i < 120) (h34 : M 34 0 ≤ 10000000) (hl : chL M l c) (hK : nmK π nam l)
    (h : ∀ M', (∀ j, j ≠ t + 12 → M' j = M j) → (∀ x, ¬ (i * 16 ≤ x ∧ x < i * 16 + 16) → M' (t + 12) x = M (t + 12) x) → (∀ x, 0 ≤ x → x < 16 → M' (t + 12) (i * 16 + x) = if nam x < 0 then -1 else π (nam x)) → Q M') : C_Bu_tellNames e (d + 1) i c M Q := by
  have h99 := hT.2.2
  have nC12 : ¬ isC e (t + 12) := nC_a (a6_12 hT.1) (by decide)
  have hlen := nmK_len hK
  obtain ⟨K1, K2, K3⟩ := hK
  refine c_Bu_tellNames (c_Bu_tellNames_0 hs ?_)
  refine for_up (fun k M' => C_Bu_tellNames_8 e d c (i * 16) k M' Q) (fun k M' => 0 ≤ k ∧ (∀ j, j ≠ t + 12 → M' j = M j) ∧ (∀ x, ¬ (i * 16 ≤ x ∧ x < i * 16 + 16) → M' (t + 12) x = M (t + 12) x) ∧ (∀ x, 0 ≤ x → x < k → M' (t + 12) (i * 16 + x) = -1)) 16 ?_ ?_ 0 M (by omega) ⟨by omega, fun _ _ => rfl, fun _ _ => rfl, fun x h0 h1 => by omega⟩
  · rintro k M' ⟨k0, g1, g2, g3⟩ hlt hgo
    refine c_Bu_tellNames_8 hs ⟨⟨by omega, by omega⟩, fun z => absurd z (by omega), fun _ => ⟨t, ⟨by rw [g1 29 (by omega)]; exact hT.2.1, hT.1⟩, by omega, fun M2 e2 => hgo M2 ⟨by omega, fun j hj => by rw [e2, xrd hj]; exact g1 j hj, fun x hx => ?_, fun x h0 h1 => ?_⟩⟩⟩
    · rw [e2, xri (by omega)]; exact g2 x hx
    · by_cases z : x = k
      · rw [z, e2, xrs]
      · rw [e2, xri (by omega)]; exact g3 x h0 (by omega)
  · rintro M1 ⟨-, g1, g2, g3⟩
    refine c_Bu_tellNames_8 hs ⟨⟨by omega, by omega⟩, fun _ => ?_, fun z => absurd (by omega) z⟩
    have key : ∀ (todo dn : List (Int × Int)) (M' : xM) (c' : Int), l = dn ++ todo → (∀ j, j ≠ t + 12 → M' j = M j) → (∀ x, ¬ (i * 16 ≤ x ∧ x < i * 16 + 16) → M' (t + 12) x = M (t + 12) x) → (∀ p ∈ dn, M' (t + 12) (i * 16 + p.2) = p.1) → (∀ x, 0 ≤ x → x < 16 → (∀ p ∈ dn, p.2 ≠ x) → M' (t + 12) (i * 16 + x) = -1) → chL M todo c' → C_Bu_tellNames_40 e d (i * 16) c' dn.length M' Q := by
      intro todo
      induction todo with
      | nil =>
        intro dn M' c' hd f1 f2 f3 f4 hc
        have hc : c' = -1 := hc
        rw [List.append_nil] at hd
        have hq : Q M' := by
          refine h M' f1 f2 (fun x x0 x1 => ?_)
          by_cases z : nam x < 0
          · rw [if_pos z]
            refine f4 x x0 x1 (fun p hp hpx => ?_)
            have := (K1 p (by rw [hd]; exact hp)).2.1
            rw [hpx] at this; omega
          · rw [if_neg z]
            exact f3 (π (nam x), x) (by rw [← hd]; exact K2 x x0 x1 (by omega))
        have hdl : dn.length ≤ 16 := by rw [← hd]; exact hlen
        exact c_Bu_tellNames_40 hs ⟨⟨by omega, by omega⟩, fun _ => hq, fun _ => ⟨by rw [hc]; exact ⟨by omega, by omega⟩, fun _ => hq, fun z => absurd hc z⟩⟩
      | cons p todo ih =>
        intro dn M' c' hd f1 f2 f3 f4 hc
        obtain ⟨a, b1, c1, d1⟩ := hc
        have hpm := K1 p (by rw [hd]; simp)
        have hdl : dn.length + 1 ≤ 16 := by rw [hd, List.length_append, List.length_cons] at hlen; omega
        obtain ⟨hp', -, hv'⟩ := hpC_cg (M' := M') hP.1 (f1 30 (by omega)) (f1 34 (by omega)) (fun j hj => f1 j (fun z => nC12 (by rw [← z]; exact hj)))
        obtain ⟨q2, n2, hq2, hn2, hw2⟩ := hpL hp' (j := 2) (by omega)
        obtain ⟨q1, n1, hq1, hn1, hw1⟩ := hpL hp' (j := 1) (by omega)
        rw [f1 34 (by omega)] at hn1 hn2
        have hnd : ∀ p' ∈ dn, p'.2 ≠ p.2 := by
          intro p' hp2 hpe
          rw [hd, List.map_append, List.map_cons, List.nodup_append] at K3
          exact K3.2.2 p'.2 (List.mem_map.mpr ⟨p', hp2, rfl⟩) p.2 (by simp) hpe
        refine c_Bu_tellNames_40 hs ⟨⟨by omega, by omega⟩, fun z => absurd z (by omega), fun _ => ⟨⟨by omega, by omega⟩, fun z => absurd z (by omega), fun _ => ⟨t, ⟨by rw [f1 29 (by omega)]; exact hT.2.1, hT.1⟩, q2, n2, hq2, ⟨a.1, by omega⟩, q1, n1, hq1, ⟨a.1, by omega⟩, ?_⟩⟩⟩
        rw [hw2, hw1, (hv' 2 _ (by omega)).1, (hv' 1 _ (by omega)).1, b1, c1]
        refine ⟨by omega, fun M4 e4 => ?_⟩
        have f1' : ∀ j, j ≠ t + 12 → M4 j = M j := fun j hj => by rw [e4, xrd hj]; exact f1 j hj
        obtain ⟨hp4, -, hv4⟩ := hpC_cg (M' := M4) hP.1 (f1' 30 (by omega)) (f1' 34 (by omega)) (fun j hj => f1' j (fun z => nC12 (by rw [← z]; exact hj)))
        obtain ⟨q3, n3, hq3, hn3, hw3⟩ := hpL hp4 (j := 3) (by omega)
        rw [f1' 34 (by omega)] at hn3
        refine ⟨q3, n3, hq3, ⟨a.1, by omega⟩, ?_⟩
        rw [hw3, (hv4 3 _ (by omega)).1]
        have := ih (dn ++ [p]) M4 (vL M 3 c') (by rw [hd]; simp) f1' (fun x hx => by rw [e4, xri (by omega)]; exact f2 x hx) (fun p' hp2 => ?_) (fun x x0 x1 hx => ?_) d1
        · rw [List.length_append, List.length_singleton] at this; exact this
        · rcases List.mem_append.mp hp2 with y | y
          · have := hnd p' y
            rw [e4, xri (by omega)]; exact f3 p' y
          · have : p' = p := by simpa using y
            rw [this, e4, xrs]
        · have hxp : x ≠ p.2 := fun y => hx p (by simp) y.symm
          rw [e4, xri (by omega)]
          exact f4 x x0 x1 (fun p' hp2 => hx p' (List.mem_append_left _ hp2))
    exact key l [] M1 c rfl g1 g2 (by simp) (fun x x0 x1 _ => g3 x x0 x1) hl
end CEN
