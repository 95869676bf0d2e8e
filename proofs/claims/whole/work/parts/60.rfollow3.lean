/-! ===== the reference follows values: every node ===== -/
section RFL3
variable {e : yE} {D : xM}
theorem gdI_spl {E : xM} {w np : Int} {col : Int → Int} (hw : wfP D) (hb : wfB D) (hc : okCo D w col np E) {r : aR} {x j m : Int} (h0 : 0 ≤ x) (h1 : x < w) (h : okT D w col E r) (hE : 0 ≤ r.2.1 x) (h4 : D 68 (r.2.1 x) = 4) (hj : 0 ≤ j) (hj2 : j < 2) (hg : gdI D m w r) : gdI D m w (spl D col x r j) := by
  intro g0 a ha
  obtain ⟨u1, u2⟩ := hg g0 a ha
  exact ⟨u1, hsN_spl hw hb hc h0 h1 h hE h4 hj hj2 u1.1 u1.2 u2⟩
theorem s_nodeF (hs : RSh e) (hg : fOK D) (h44 : D 59 44 = 1) : ∀ n : Nat, FolOK e D n := by
  intro n
  induction n using Nat.strongRecOn with
  | ind n IH =>
    intro d s cb lst lh w col np E rows M Q va k rest hd hk hst hn h87 h42 h35 hp hb hwf hgd h93 hval h45 h46 hfin h
    have hb' := hb
    obtain ⟨b1, b2, b3, b4, b5, b6⟩ := hb'
    obtain ⟨n, rows', a, rfl, hsh, hch⟩ := fin_node hfin
    obtain ⟨k, rfl⟩ : ∃ k', k = k' + 1 := ⟨k - 1, by omega⟩
    obtain ⟨d1, rfl⟩ : ∃ d1, d = d1 + 4 := ⟨d - 4, by omega⟩
    have hg' := hg
    obtain ⟨gp, gt, gv, gb, g43, g79⟩ := hg'
    have hlen := hwf.2.2
    have hok := okB_of gp hst hb h87
    obtain ⟨wf2, hcase⟩ := wfN_shp gp hwf hsh
    have gd2 : ∀ r ∈ rows', okT D w col E r ∧ gdI D (D 59 43) w r :=
      (shp_ok (P := fun r => okT D w col E r ∧ gdI D (D 59 43) w r) hwf.1.1 (fun r a j h0 h1 h2 h3 h4 h5 h6 => ⟨okT_spl gp h0 h1 h2.1 h3 h4 h5 h6, gdI_spl gp gb hwf.1 h0 h1 h2.1 h3 h4 h5 h6 h2.2⟩) hsh (fun q hq => ⟨(hwf.2.1 q hq).1, hgd q hq⟩) hlen).1
    -- the end
    have fin : ∀ M', frN s cb lh np E M M' → M' 59 35 = lh → M' 59 42 = np → M' 59 45 = 0 → M' 94 0 = M 94 0 + (wk D (D 59 43) (k + 1) (w, col, np, E, rows) va).1 → M' 94 1 = M 94 1 + (wk D (D 59 43) (k + 1) (w, col, np, E, rows) va).2.1 → R_node_182 e (d1 + 3) s cb M' Q := by
      intro M' hfr a35 a42 a45 t0 t1
      refine t_node_182 hs (fun M1 e1 M2 e2 => ?_)
      rw [e2, e1]
      exact h _ (frN_up (frN_up hfr (nk_59 (by omega))) (nk_59 (by omega))) (by rw [xri (by decide), xrs]) xrs (by rw [xri (by decide), xri (by decide)]; exact a35) (by rw [xri (by decide), xri (by decide)]; exact a42) (by rw [xri (by decide), xri (by decide)]; exact a45) (by rw [xrd (by decide), xrd (by decide)]; exact t0) (by rw [xrd (by decide), xrd (by decide)]; exact t1)
    have main : R_node_35 e (d1 + 3) s lst w cb (fA w rows) M Q := by
      refine s_nF (D := D) (cb := cb) (col := col) hs 25 M rows hok hn hlen (by omega) (fun q hq => okT_C (hwf.2.1 q hq).1) h45 (fun hF M' a' hfr => ?_) (fun rowsF hF M' hfr hn' hc' hl' => ?_)
      · unfold shp at hsh; rw [hF] at hsh; cases hsh
      · have st1 : stt D M' := frN_stt (frS_N (lh := lh) (np := np) (E := E) hfr) hst
        have f45 : M' 59 45 = 0 := by rw [frS_o hfr 45 (by omega)]; exact h45
        have f46 : M' 59 46 = M 59 46 := by rw [frS_o hfr 46 (by omega)]
        have f35 : M' 59 35 = lh := by rw [frS_o hfr 35 (by omega)]; exact h35
        have f42 : M' 59 42 = np := by rw [frS_o hfr 42 (by omega)]; exact h42
        have f87 : ∀ k, 0 ≤ k → k < w → M' 87 (lst + k) = col k := fun k h0 h1 => by rw [frS_c hfr 87 (by omega)]; exact h87 k h0 h1
        have f93 : ∀ q, 0 ≤ q → q < np → M' 93 q = va q := fun q h0 h1 => by rw [frS_c hfr 93 (by omega)]; exact h93 q h0 h1
        have f94 : M' 94 = M 94 := frS_c hfr 94 (by omega)
        have fp : ∀ M'', frS s cb M M'' → plc M'' np E := by
          intro M'' hf q q0 q1
          rw [frS_c hf 88 (by omega), frS_c hf 89 (by omega), frS_c hf 90 (by omega), frS_c hf 91 (by omega), frS_c hf 92 (by omega)]
          exact hp q q0 q1
        have h31 := hn'.1
        have hA := fA_is (w := w) (rows := rowsF) b3.1
        have h44' : M' 59 44 = 1 := by rw [st1 59 44 (by omega)]; exact h44
        refine t_node_78 hs ⟨by rw [f45]; exact ⟨by omega, by omega⟩, fun c => absurd f45 c, fun _ => ⟨⟨⟨by omega, by omega⟩, ⟨by omega, by omega⟩⟩, fun c => ?_, fun c => ?_⟩⟩
        · cases rowsF with
          | nil => exact absurd (by rw [h31]; simp) c
          | cons r rs =>
            have hfa : fA w (r :: rs) = fOp r.2.1 w.toNat 0 := rfl
            refine ⟨by rcases hA with z | z <;> exact ⟨by omega, by omega⟩, fun c2 => ?_, fun c2 => ?_⟩
            · obtain ⟨a0, ha⟩ : ∃ a0, a0 = fA w (r :: rs) := ⟨_, rfl⟩
              rw [← ha] at hA c2 ⊢
              have hfo : fOp r.2.1 w.toNat 0 = a0 := by rw [ha, hfa]
              have hok' := okB_fr hok hfr
              have hsh2 : shp D w col rows = (nA D col a0 50 [] (r :: rs)).map (fun q => (q, a0)) := by
                unfold shp
                rw [hF]
                show (if fOp r.2.1 w.toNat 0 < 0 then _ else _) = _
                rw [hfo, if_neg (by omega)]
              have hNA := s_nA (e := e) (d := d1 + 1) (D := D) (s := s) (w := w) (cb := cb) (lst := lst) (at_ := a0) (x4 := cb) (col := col) (Q := Q) hs (by omega) 50 M' [] (r :: rs) hok' hn' hl' (by simp at hl' ⊢; omega) hc' f45 (by omega) (fun hN M'' hf2 => ?_) (fun rows2 hN M2 hf2 hn2 hc2 hl2 => ?_)
              · have := hNA.1
                rw [show s + (([] : List aR).length : Int) = s by simp] at this
                exact this
              · rw [hN, hsh] at hsh2; cases hsh2
              · rw [hN, hsh] at hsh2
                have hsh2 := Option.some.inj hsh2
                have e1 : rows' = rows2 := congrArg Prod.fst hsh2
                have e2 : a = a0 := congrArg Prod.snd hsh2
                subst e1
                subst e2
                have hf3 := frS_trans hfr hf2
                rcases hcase with ⟨z, -⟩ | ⟨hat, hne0, hne2⟩
                · omega
                · have g45 : M2 59 45 = 0 := by rw [frS_o hf2 45 (by omega)]; exact f45
                  have g46 : M2 59 46 = M 59 46 := by rw [frS_o hf2 46 (by omega)]; exact f46
                  have g31 := hn2.1
                  refine t_node_118 hs ⟨⟨⟨by omega, by omega⟩, ⟨by omega, by omega⟩⟩, fun _ => s_countNode hs (Or.inl g45) (by omega) (by omega) (fun _ _ => ?_) (fun cn => by omega), fun z => absurd (by omega) z⟩
                  obtain ⟨M3, hM3⟩ : ∃ z : xM, z = xup (xup (xup M2 59 45 0) 59 46 (M2 59 46 + 1)) 94 0 (M2 94 0 + 1) := ⟨_, rfl⟩
                  rw [← hM3]
                  have fr3 : frN s cb lh np E M M3 := by rw [hM3]; exact frN_trans (frS_N hf3) fr_cnt
                  have o3 : ∀ i, i ≠ 45 → i ≠ 46 → M3 59 i = M2 59 i := by
                    intro i h1 h2
                    rw [hM3, xrd (by decide), xri h2, xri h1]
                  have c3 : ∀ c, c ≠ 59 → c ≠ 94 → M3 c = M2 c := by
                    intro c h1 h2
                    rw [hM3, xrd h2, xrd h1, xrd h1]
                  have q46 : M3 59 46 = M 59 46 + 1 := by rw [hM3, xrd (by decide), xrs, g46]
                  have g94 : M2 94 = M 94 := frS_c hf3 94 (by omega)
                  have q0 : M3 94 0 = M 94 0 + 1 := by rw [hM3, xrs, g94]
                  have q1 : M3 94 1 = M 94 1 := by rw [hM3, xri (by decide), xrd (by decide), xrd (by decide), g94]
                  have hcd : chd D (D 59 43) w col np E rows' a = chT D w col np E a rows' := by unfold chd; rw [if_neg (by omega)]
                  rw [hcd] at hch
                  have hwk := wk_test (m := D 59 43) (np := np) (E := E) (n := k) (va := va) hsh hat.1
                  refine ⟨⟨by omega, by omega⟩, fun z => absurd z (by omega), fun _ => ?_⟩
                  refine s_testF (e := e) (D := D) (E := E) (n := n) (k := k) (np := np) (cb := cb) (lh := lh) (col := col) (rows := rows') (va := va) (t := if D 65 (va (col a)) ∈ kys D a rows' [] then wk D (D 59 43) k (chB D w col np E a rows' (D 65 (va (col a))) false) (vaN D va np (col a)) else if E 88 (col a) = 0 ∨ ((kys D a rows' []).length : Int) < D 60 (E 88 (col a)) then wk D (D 59 43) k (chB D w col np E a rows' (lA (kys D a rows' []) 0) true) va else (0, 0, -1, fun _ => -1)) hs hg h44 (fun k hk => IH k hk) (by omega) (by omega) (frN_stt fr3 hst) ?_ (fun k h0 h1 => by rw [c3 87 (by decide) (by decide), frS_c hf3 87 (by omega)]; exact h87 k h0 h1) (by rw [o3 42 (by omega) (by omega), frS_o hf3 42 (by omega)]; exact h42) (by rw [o3 35 (by omega) (by omega), frS_o hf3 35 (by omega)]; exact h35) ?_ hb wf2 (fun r hr => (gd2 r hr).2) (fun q h0 h1 => by rw [c3 93 (by decide) (by decide), frS_c hf3 93 (by omega)]; exact h93 q h0 h1) hval hat hne2 (by rw [hM3, xrd (by decide), xri (by decide), xrs]) (by rw [q46]; omega) hch (fun z => by rw [if_pos z]) (fun z z2 => by rw [if_neg z, if_pos z2]) (fun z z2 => by rw [if_neg z, if_neg z2]; exact ⟨rfl, rfl⟩) ?_
                  · refine ⟨by rw [o3 31 (by omega) (by omega)]; exact hn2.1, by rw [o3 33 (by omega) (by omega)]; exact hn2.2.1, fun i hi => by rw [c3 84 (by decide) (by decide)]; exact hn2.2.2.1 i hi, fun i q hq => ?_⟩
                    obtain ⟨u1, u2, u3⟩ := hn2.2.2.2 i q hq
                    exact ⟨by rw [c3 83 (by decide) (by decide)]; exact u1, fun k h0 h1 => by rw [c3 84 (by decide) (by decide), c3 86 (by decide) (by decide)]; exact u2 k h0 h1, fun x h0 h1 => by rw [c3 85 (by decide) (by decide)]; exact u3 x h0 h1⟩
                  · intro q q0 q1
                    rw [c3 88 (by decide) (by decide), c3 89 (by decide) (by decide), c3 90 (by decide) (by decide), c3 91 (by decide) (by decide), c3 92 (by decide) (by decide)]
                    exact fp M2 hf3 q q0 q1
                  · intro M4 fr4 c35 c42 c45 t0 t1
                    refine fin M4 (frN_trans fr3 fr4) c35 c42 c45 ?_ ?_
                    · rw [t0, q0, hwk]
                      split
                      · show M 94 0 + 1 + _ = M 94 0 + (_ + 1); omega
                      · split
                        · show M 94 0 + 1 + _ = M 94 0 + (_ + 1); omega
                        · show M 94 0 + 1 + 0 = M 94 0 + 1; omega
                    · rw [t1, q1, hwk]
                      split
                      · rfl
                      · split
                        · rfl
                        · rfl
            · have hsh2 : shp D w col rows = some (r :: rs, -1) := by
                unfold shp
                rw [hF]
                show (if fOp r.2.1 w.toNat 0 < 0 then _ else _) = _
                rw [if_pos (by rw [← hfa]; omega)]
              rw [hsh] at hsh2
              have hsh2 := Option.some.inj hsh2
              have e1 : rows' = r :: rs := congrArg Prod.fst hsh2
              have e2 : a = -1 := congrArg Prod.snd hsh2
              subst e1
              subst e2
              refine s_leafF (e := e) (D := D) (E := E) (n := n) (k := k) (np := np) (cb := cb) (lh := lh) (col := col) (rows := rows) (r := r) (rs := rs) (va := va) (rest := rest) hs hg h44 IH (by omega) (by omega) st1 hn' f87 f42 f35 (fp M' hfr) hb wf2 (fun q hq => (gd2 q hq).2) (by rcases hA with z | z; exact z; omega) f93 hval f45 (by omega) hsh hch ?_
              intro M3 fr3 c35 c42 c45 t0 t1
              exact fin M3 (frN_trans (frS_N hfr) fr3) c35 c42 c45 (by rw [t0, f94]) (by rw [t1, f94])
        · have hr0 : rowsF = [] := by
            cases rowsF with
            | nil => rfl
            | cons r rs =>
              rw [List.length_cons] at h31
              exact absurd (by omega) c
          subst hr0
          have hsh2 : shp D w col rows = some ([], -1) := by unfold shp; rw [hF]
          have hwk := wk_fail (m := D 59 43) (np := np) (E := E) (n := k) (va := va) hsh2
          refine t_failure (t_failure_0 hs (s_countNode hs (Or.inl f45) (by omega) (by omega) (fun _ _ => ?_) (fun c => by omega)))
          refine ⟨⟨by omega, by omega⟩, fun z => absurd z (by omega), fun _ => ⟨by rw [xrd (by decide), xri (by decide), xri (by decide), h44']; exact ⟨by omega, by omega⟩, fun _ => ?_, fun z => absurd (by rw [xrd (by decide), xri (by decide), xri (by decide), h44']; decide) z⟩⟩
          refine fin _ (frN_trans (frS_N hfr) fr_cnt) (by rw [xrd (by decide), xri (by decide), xri (by decide)]; exact f35) (by rw [xrd (by decide), xri (by decide), xri (by decide)]; exact f42) (by rw [xrd (by decide), xri (by decide), xrs]) ?_ ?_
          · rw [hwk, xri (by decide), xrd (by decide), xrd (by decide), f94]; show M 94 0 = M 94 0 + 0; omega
          · rw [hwk, xri (by decide), xrd (by decide), xrd (by decide), f94]; show M 94 1 = M 94 1 + 0; omega
    have h31 := hn.1
    have h33 := hn.2.1
    have hx4 : M 59 33 - (M 59 31 - s) * w = cb := by
      rw [h31, h33, show s + (rows.length : Int) - s = rows.length by omega]; omega
    refine t_node (t_node_0 hs ⟨⟨⟨by omega, by omega⟩, ⟨by omega, by omega⟩⟩, fun c => ?_, fun c => ?_⟩)
    · rw [hx4]
      have hr0 : rows = [] := by
        cases rows with
        | nil => rfl
        | cons r rs => rw [List.length_cons] at h31; omega
      rw [hr0] at main
      exact main
    · rw [hx4]
      cases rows with
      | nil => exact absurd (by rw [h31]; simp) c
      | cons r rs =>
        have hI := hn.2.2.2 0 r rfl
        rw [show s + ((0 : Nat) : Int) = s by omega] at hI
        have hA := ndR_at hok hn hlen (i := 0) (by simp)
        rw [show s + ((0 : Nat) : Int) = s by omega] at hA
        exact s_firstOpen_R hs hok hA.1 hA.2 hI (okT_C (hwf.2.1 r (by simp)).1) main
end RFL3
