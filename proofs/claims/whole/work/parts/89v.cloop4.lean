/-! ===== the class: the end of a node, and a test, in stands() ===== -/
section CLT
variable {D : xM} {d : Nat} {t mq : Nat} {m i at_ : Int} {e0 : yE} {M0 : xM} {cs0 cl0 : Nat}
theorem s_endStep {e e8 : yE} {M M8 : xM} {cs8 cl8 : Nat} {nd : Int → aN} {pi : Int → Int → Int} {evs : List aV} {ws : List Int} {rows : List aR} {K : xM → Prop} (hw : wfP D) (hwb : wfB D) (hfx : fxT D t mq m e0 M0) (hl : lpS t e0 M0 cs0 cl0 e8 M8 cs8 cl8) (h : ivT D t m M nd pi evs (i :: ws)) (hpa : ∃ hw, paI D t m M nd pi hw (i :: ws)) (hq : shp D (nd i).1 (nd i).2.1 (nd i).2.2.2.2 = some (rows, at_)) (hat : at_ < 0) (hS : nmS t M M8 (nd i).2.2.2.2.length rows.length) (hR : cR D M8 (pi i) (nd i).1 (nd i).2.1 rows) (hW : wtg M8 ws)
    (hov : ∀ M', ovT D t m e0 M0 cs0 cl0 e8 M' → K M') (hgo : ∀ M' v ws', goT D t m e0 M0 cs0 cl0 e8 M' (evs ++ [v]) ws' → K M') : C_Bu_endNode e8 (d + 2) i M8 K := by
  obtain ⟨hs8, hq8, h99, hmt, hT8, hC8, hY8, h16, hg8⟩ := fxT_at hfx hl
  obtain ⟨⟨b1, b2, b3, b4, b5⟩, ⟨c1, c2⟩⟩ : (M t 0 = 0 ∧ M t 1 = evs.length + (i :: ws).length ∧ M t 1 ≤ 120 ∧ 0 ≤ M t 4 ∧ M t 4 ≤ 3 * M t 1) ∧ ((i :: ws).Nodup ∧ ∀ j ∈ i :: ws, 0 ≤ j ∧ j < M t 1) := ⟨h.2.1, h.2.2.1⟩
  have hi := c2 i (List.mem_cons_self ..)
  have st := hS.1 t (Nat.le_refl _) (Nat.le_add_right _ _)
  obtain ⟨n1, -⟩ := (h.2.2.2.1 i hi.1 hi.2).1
  obtain ⟨hN', -⟩ := wfN_shp hw n1 hq
  have h3 := iv_t3 h
  rw [List.length_cons] at b2
  have h34 := hp_rg hl.1.1
  have hpw := pw_le hl.1.2.2
  have h9t := hT8.2.2
  have hi120 : 0 ≤ i ∧ i < 120 := by omega
  have h34b : M8 34 0 ≤ 10000000 := by omega
  have ht0 : M8 t 0 = 0 := by rw [st]; exact b1
  have ht3 : rg (M8 t 3) := by rw [st]; exact ⟨by omega, by omega⟩
  have ht1 : 0 ≤ M8 t 1 ∧ M8 t 1 ≤ 120 := by rw [st]; omega
  have hwl : ws.length + 1 ≤ 120 := by omega
  have h5 : M8 29 5 = ws.length := hW.1
  have tkL : ∀ {k : Int} {r : aR} {M' : xM}, tkN t i (pi i) k r M8 M' → lpS t e8 M8 cs8 cl8 e8 M' cs8 cl8 ∧ M' 29 = M8 29 ∧ M' 38 = M8 38 := by
    intro k r M' hk
    obtain ⟨x1, x2⟩ := tk_hp h9t hT8.1 hl.1 hk
    have h29 : M' 29 = M8 29 := hk.1 29 (by omega) (by omega) (by omega) (by omega) (by omega)
    exact ⟨lpS_of hl.1 x1 (fun j _ _ y => hk.1 j (fun z => y (by omega)) (fun z => y (by omega)) (fun z => y (by omega)) (fun z => y (by omega)) (fun z => y (by omega))) (fun x _ _ _ _ _ => by rw [h29]), h29, hk.1 38 (by omega) (by omega) (by omega) (by omega) (by omega)⟩
  refine s_endNode (D := D) (m := m) (rows := rows) (ws := ws) hs8 hT8 hl.1 hi120 h34b ht0 ht3 ht1 hR hN'.2.2 (fun r hr => (hN'.2.1 r hr).2.1) hq8 h16 hmt hg8 hW hwl (fun hr => ?_) (fun r rs hr hg M' hk => ?_) (fun r rs hr hg h120 M' hk => ?_) (fun r rs hr hg h120 M' M'' hk hqs hgr hp => ?_)
  · subst hr
    obtain ⟨v1, v2⟩ := iv_fail h9t hT8.1 hl.1 h hq hat hS
    obtain ⟨r1, r2, -⟩ := bcm_fr (M := M8) (t := t) (i := i) (k := 3)
    have h29 : bcm M8 t i 3 29 = M8 29 := r1 29 (by omega) (by omega) (by omega)
    obtain ⟨hw0, hpa⟩ := hpa
    exact hgo _ _ ws ⟨cs8, cl8, nd, pi, lpS_trans hl (lpS_of hl.1 v2 (fun j _ _ y => r1 j (fun z => y (by omega)) (fun z => y (by omega)) (fun z => y (by omega))) (fun x _ _ _ _ _ => by rw [h29])), v1, wtg_cg2 (by rw [h29]) (r1 38 (by omega) (by omega) (by omega)) hW, hw0, pa_leaf h hpa (kpO_bcm hS.1) (by rw [r2 1 (by decide), st])⟩
  · subst hr
    obtain ⟨l1, l2, l3⟩ := tkL hk
    obtain ⟨hw0, hpa⟩ := hpa
    exact hgo _ _ ws ⟨cs8, cl8, nd, pi, lpS_trans hl l1, iv_take h9t hT8.1 hl.1 h hq hat hN'.2.2 hS hg hk, wtg_cg2 (by rw [l2]) l3 hW, hw0, pa_leaf h hpa (kpO_tk hS.1 hk) (by rw [hk.2.1 1 (by decide), st])⟩
  · subst hr
    obtain ⟨l1, l2, l3⟩ := tkL hk
    obtain ⟨l4, -⟩ := lpS_t0 h9t hT8.1 l1.1
    refine hov _ ⟨cs8, cl8, lpS_trans hl (lpS_trans l1 l4), by rw [xrs], ?_, ?_⟩
    · have hst := fin_step (a := nd i) (S := ws.map nd) h.1 (by omega) hq
      have hch : chd D m (nd i).1 (nd i).2.1 (nd i).2.2.1 (nd i).2.2.2.1 (r :: rs) at_ = [((nd i).1, (nd i).2.1, (nd i).2.2.1, (nd i).2.2.2.1, rs)] := by
        unfold chd; rw [if_pos hat]
        show (if D 79 (12 * m + r.1) < 0 then _ else _) = _
        rw [if_neg hg]
      rw [hch] at hst
      rw [st] at h120
      refine fin_many hst (by rw [List.length_append, List.length_singleton]; omega) ?_
      rw [List.length_append, List.length_singleton, List.length_append, List.length_singleton, List.length_map]; omega
    · rw [xrd (show (29 : Nat) ≠ t by omega), l2]; omega
  · subst hr
    obtain ⟨l1, l2, l3⟩ := tkL hk
    rw [st] at h120 hqs
    obtain ⟨hw0, hpa⟩ := hpa
    obtain ⟨nd', pi', hnn, hv⟩ := iv_ask (cs := cs8) (cl := cl8) hw hwb h9t hT8.1 h hq hat hS hg h120 hk hqs hgr
    have u := hqs.1
    have e21 : M' t 1 = M t 1 := by rw [hk.2.1 1 (by decide), st]
    have hpa' := pa_ask h hpa (kpO_trans (kpO_tk hS.1 hk) (kpO_qs h9t e21 hqs)) hqs.2.2.1 hnn hv hq hat hg (by rw [hqs.2.2.2.2.1 i, if_pos rfl])
    exact hgo _ _ (M t 1 :: ws) ⟨cs8, cl8, nd', pi', lpS_trans hl (lpS_trans l1 (lpS_of l1.1 hp (fun j y1 y2 y3 => u j (fun z => y3 (by omega)) (fun z => y3 (by omega)) (fun z => y3 (by omega)) (fun z => y3 (by omega)) y1 (fun z => y2 (by omega)) (fun z => y2 (by omega)) (fun z => y2 (by omega))) (fun x y1 _ _ _ _ => hqs.2.2.2.2.2.2.1 x y1))), hv, hqs.2.2.2.2.2.2.2.1, hpa'⟩
theorem s_growStep {e8 : yE} {M M8 : xM} {cs8 cl8 : Nat} {nd : Int → aN} {pi : Int → Int → Int} {evs : List aV} {ws : List Int} {rows : List aR} {K : yE → xM → Prop} (hw : wfP D) (hwt : wfT D) (hwb : wfB D) (hfx : fxT D t mq m e0 M0) (hl : lpS t e0 M0 cs0 cl0 e8 M8 cs8 cl8) (h : ivT D t m M nd pi evs (i :: ws)) (hpa : ∃ hw, paI D t m M nd pi hw (i :: ws)) (hq : shp D (nd i).1 (nd i).2.1 (nd i).2.2.2.2 = some (rows, at_)) (hat : 0 ≤ at_) (hbr : ∀ ty, 1 ≤ (brs D ty at_ rows).length) (hS : nmS t M M8 (nd i).2.2.2.2.length rows.length) (hR : cR D M8 (pi i) (nd i).1 (nd i).2.1 rows) (hW : wtg M8 ws)
    (hov : ∀ M', ovT D t m e0 M0 cs0 cl0 e8 M' → K e8 M') (hgo : ∀ e' M' v ws', yLe e8 e' → goT D t m e0 M0 cs0 cl0 e' M' (evs ++ [v]) ws' → K e' M') : C_Bu_growTest e8 (d + 6) i (pi i ((nd i).2.1 at_)) M8 K := by
  obtain ⟨hs8, hq8, h99, hmt, hT8, hC8, hY8, h16, hg8⟩ := fxT_at hfx hl
  obtain ⟨⟨b1, b2, b3, b4, b5⟩, ⟨c1, c2⟩, ⟨f1, f2⟩⟩ : (M t 0 = 0 ∧ M t 1 = evs.length + (i :: ws).length ∧ M t 1 ≤ 120 ∧ 0 ≤ M t 4 ∧ M t 4 ≤ 3 * M t 1) ∧ ((i :: ws).Nodup ∧ ∀ j ∈ i :: ws, 0 ≤ j ∧ j < M t 1) ∧ (M 30 0 ≤ 24 + 48 * evs.length + 2 * sumR ((i :: ws).map nd) ∧ M 34 0 ≤ 86 * M 30 0) := ⟨h.2.1, h.2.2.1, h.2.2.2.2.2.1⟩
  have hi := c2 i (List.mem_cons_self ..)
  have st := hS.1 t (Nat.le_refl _) (Nat.le_add_right _ _)
  have st2 := hS.1 (t + 2) (by omega) (by omega)
  obtain ⟨n1, n2, n3, n4⟩ := (h.2.2.2.1 i hi.1 hi.2).1
  obtain ⟨hN', hcs⟩ := wfN_shp hw n1 hq
  have hU' := shp_U hw hwb n1 n2 hq
  obtain ⟨haw, hrn, hne⟩ : (0 ≤ at_ ∧ at_ < (nd i).1) ∧ rows ≠ [] ∧ ∀ q ∈ rows, ¬ (0 ≤ q.2.1 at_ ∧ D 68 (q.2.1 at_) = 4) := by
    rcases hcs with z | z
    · exact absurd hat (by rw [z.1]; decide)
    · exact z
  have h3 := iv_t3 h
  rw [List.length_cons] at b2
  have h34 := hp_rg hl.1.1
  have hpw := pw_le hl.1.2.2
  have h9t := hT8.2.2
  have hi120 : 0 ≤ i ∧ i < 120 := by omega
  have h34b : M8 34 0 ≤ 10000000 := by omega
  have ht0 : M8 t 0 = 0 := by rw [st]; exact b1
  have ht3 : rg (M8 t 3) := by rw [st]; exact ⟨by omega, by omega⟩
  have ht1 : 0 ≤ M8 t 1 ∧ M8 t 1 ≤ 120 := by rw [st]; omega
  have h5 : M8 29 5 = ws.length := hW.1
  have hca := hN'.1.2.2.1 at_ haw.1 haw.2
  have hsum := sumR_le (ws.map nd) (fun c hc => by
    obtain ⟨x, hx, rfl⟩ := List.mem_map.mp hc
    have := c2 x (List.mem_cons_of_mem _ hx)
    exact (h.2.2.2.1 x this.1 this.2).1.1.2.2)
  rw [List.length_map] at hsum
  have fs : sumR ((i :: ws).map nd) = (nd i).2.2.2.2.length + sumR (ws.map nd) := rfl
  rw [fs] at f1
  have hrl := hN'.2.2
  obtain ⟨n, hn⟩ : ∃ n, n = (brs D ((nd i).2.2.2.1 88 ((nd i).2.1 at_)) at_ rows).length := ⟨_, rfl⟩
  have hn1 := hbr ((nd i).2.2.2.1 88 ((nd i).2.1 at_))
  rw [← hn] at hn1
  have s30 := hS.2.2.2.2.1
  have s34 := hS.2.2.2.2.2
  have hz : M8 t 1 + n ≤ 120 → M8 34 0 + 172 * rows.length < 499500 ∧ M8 30 0 + 2 * rows.length < 8000 := by
    intro z
    rw [st] at z
    clear hU' hne hcs c2 n2 n3 n4 hov hgo hg8 hY8 hC8 hR hW hS
    omega
  have hst := fin_step (a := nd i) (S := ws.map nd) h.1 (by omega) hq
  refine s_growTest (d := d) (E := (nd i).2.2.2.1) (np := (nd i).2.2.1) (b := M t 4) (n := n) (ws := ws) (rows := rows) hw hwt hwb n3 (by rw [st]; exact Int.le_refl _) b4 hN' haw hi120 hn (fun r hr => ⟨hne r hr, hU' r hr⟩) hs8 hl.1 hC8 hY8 hT8 hR hW (by rw [st]; omega) ht0 ht1 ht3 (by rw [st]; exact b5) (by rw [st2]; exact n4 _ hca.1.1 hca.1.2) h34b hz (fun hno M' q1 q2 q3 => ?_) (fun hyes e' M' cs' cl' hk => ?_)
  · obtain ⟨hp7, -, -⟩ := hpC_cg (M' := M') hl.1.1 (q1 30 (by decide) (by decide) (by omega)) (q1 34 (by decide) (by decide) (by omega)) (fun j hj => q1 j (fun z => nC_29 hs8 (by rw [← z]; exact hj)) (fun z => nC_a (caa_42 hs8) (by decide) (by rw [← z]; exact hj)) (fun z => tr_nC hT8.1 z.1 (by omega) hj))
    refine hov M' ⟨cs8, cl8, lpS_trans hl (lpS_of hl.1 ⟨hp7, hl.1.2⟩ (fun j y1 y2 y3 => q1 j y1 (fun z => y2 (by omega)) (fun z => y3 (by omega))) (fun x _ _ y3 _ _ => q2 x y3)), q3, ?_, by rw [q2 5 (by decide)]; omega⟩
    have hnat : ¬ at_ < 0 := by omega
    have hch : (chd D m (nd i).1 (nd i).2.1 (nd i).2.2.1 (nd i).2.2.2.1 rows at_).length = n := by
      unfold chd; rw [if_neg hnat, brs_ch, List.length_map, hn]
    rw [st] at hno
    refine fin_many hst (by rw [List.length_append, List.length_singleton]; omega) ?_
    rw [List.length_append, List.length_singleton, List.length_append, hch, List.length_map]; omega
  · rw [st] at hyes
    obtain ⟨nd', pi', hnn, hv⟩ := iv_test hw hwt hwb h9t hT8.1 h hq hat hS hn hyes hk
    obtain ⟨hw0, hpa⟩ := hpa
    have k31 := hk.2.2.2.1.2.1
    have k7 := hk.2.2.2.2.2.2.2.2.2.1
    have kb := hk.2.2.2.2.2.2.2.2.2.2.2.2.2.2.1
    rw [st] at k31 k7 kb
    have hpa' := pa_test hw h hpa (kpO_ts h9t hT8.1 hS.1 hk) k31 hnn hv hq hat hn (by rw [k7 i, if_pos rfl]) (fun x x0 x1 => by
      obtain ⟨j, hj⟩ : ∃ j : Nat, x = M t 1 + j := ⟨(x - M t 1).toNat, by omega⟩
      obtain ⟨⟨k, o⟩, ey⟩ : ∃ y, (brs D ((nd i).2.2.2.1 88 ((nd i).2.1 at_)) at_ rows)[j]? = some y := ⟨_, List.getElem?_eq_getElem (by omega)⟩
      obtain ⟨f, f1, -, -, -, f5, -⟩ := kb j k o ey
      rw [hj, f5]; exact f1) (fun k o hm => by
      have b2 := (brs_key hw hN' haw hne hm).2
      obtain ⟨c1, c2, c3⟩ := bMn_nPs (o := o) hwt hca.2.2 b2
      exact ⟨c3, by omega⟩)
    have hw' := hk.2.2.2.2.2.2.2.2.2.2.2.2.2.1
    rw [st] at hw'
    obtain ⟨⟨k1, k2, k3, k4⟩, r1, r2, -⟩ := hk
    exact hgo e' M' _ _ k2 ⟨cs', cl', nd', pi', lpS_trans hl ⟨k1, k2, k3, fun j y1 y2 y3 y4 y5 y6 y7 => r1 j y1 y2 y3 y4 (fun z => y5 (by omega)) (fun z => y5 (by omega)) (fun z => y5 (by omega)) (fun z => y5 (by omega)) (fun z => y5 (by omega)) (fun z => y5 (by omega)) (fun z => y6 (by omega)) y7, fun x y1 _ y3 y4 y5 => r2 x y1 y3 y4 y5⟩, hv, hw', hpa'⟩
end CLT
