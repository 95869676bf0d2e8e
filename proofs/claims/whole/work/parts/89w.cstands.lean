/-! ===== the class: stands() ===== -/
section CLU
variable {D : xM} {d : Nat} {t mq : Nat} {m : Int} {e0 : yE} {M0 : xM} {cs0 cl0 : Nat}
/-- one node -/
theorem s_stepS {e : yE} {M : xM} {evs : List aV} {ws : List Int} {i : Int} {x2 : Int} {Q : Int → yE → xM → Prop} (hw : wfP D) (hwt : wfT D) (hwb : wfB D) (hfx : fxT D t mq m e0 M0) (hg : goT D t m e0 M0 cs0 cl0 e M evs (i :: ws)) (hx : x2 = evs.length)
    (hov : ∀ e' M', yLe e e' → ovT D t m e0 M0 cs0 cl0 e' M' → C_Bu_stands_30 e' (d + 6) mq (x2 + 1) M' Q) (hgo : ∀ e' M' v ws', yLe e e' → goT D t m e0 M0 cs0 cl0 e' M' (evs ++ [v]) ws' → C_Bu_stands_30 e' (d + 6) mq (x2 + 1) M' Q) : C_Bu_stands_30 e (d + 6) mq x2 M Q := by
  obtain ⟨cs, cl, nd, pi, hl, hv, hW, hpa⟩ := hg
  obtain ⟨hs, hq, h99, hmt, hT, hC, hY, h16, hgd⟩ := fxT_at hfx hl
  obtain ⟨⟨b1, b2, b3, b4, b5⟩, ⟨c1, c2⟩, ⟨f1, f2⟩⟩ : (M t 0 = 0 ∧ M t 1 = evs.length + (i :: ws).length ∧ M t 1 ≤ 120 ∧ 0 ≤ M t 4 ∧ M t 4 ≤ 3 * M t 1) ∧ ((i :: ws).Nodup ∧ ∀ j ∈ i :: ws, 0 ≤ j ∧ j < M t 1) ∧ (M 30 0 ≤ 24 + 48 * evs.length + 2 * sumR ((i :: ws).map nd) ∧ M 34 0 ≤ 86 * M 30 0) := ⟨hv.2.1, hv.2.2.1, hv.2.2.2.2.2.1⟩
  have hi := c2 i (List.mem_cons_self ..)
  obtain ⟨⟨n1, n2, n3, n4⟩, hwt', -⟩ := hv.2.2.2.1 i hi.1 hi.2
  have hwi := hwt' (List.mem_cons_self ..)
  have h9t := hT.2.2
  have h5 : M 29 5 = ws.length + 1 := hW.1
  rw [List.length_cons] at b2
  have hsum := sumR_le (ws.map nd) (fun c hc => by
    obtain ⟨x, hx, rfl⟩ := List.mem_map.mp hc
    have := c2 x (List.mem_cons_of_mem _ hx)
    exact (hv.2.2.2.1 x this.1 this.2).1.1.2.2)
  rw [List.length_map] at hsum
  have fs : sumR ((i :: ws).map nd) = (nd i).2.2.2.2.length + sumR (ws.map nd) := rfl
  rw [fs] at f1
  have hrl := n1.2.2
  refine c_Bu_stands_30 hs hq ⟨⟨by omega, by omega⟩, fun z => absurd z (by omega), fun _ => ⟨by rw [h5]; exact ⟨by omega, by omega⟩, fun z => absurd z (by omega), fun _ => ⟨t, ⟨hT.2.1, hT.1⟩, by rw [b1]; exact ⟨by omega, by omega⟩, fun z => absurd b1 z, fun _ M2 e2 => ?_⟩⟩⟩
  have r25 : M2 29 5 = ws.length := by rw [e2, xrs, h5]; omega
  have k2 : ∀ j, j ≠ 29 → M2 j = M j := fun j hj => by rw [e2, xrd hj]
  have hi38 : M2 38 (M2 29 5) = i := by
    rw [r25, k2 38 (by decide)]
    have := hW.2 0 i rfl
    rw [List.length_cons] at this
    rw [← this]; congr 1; omega
  rw [hi38]
  refine ⟨by omega, s_loadRows (d := d + 5) hs (by omega) (n := (nd i).2.2.2.2.length) (by rw [k2 40 (by decide)]; exact hwi.1) hrl (fun M3 p1 p2 p3 p4 => ?_)⟩
  have k3 : ∀ j, j ≠ 29 → j ≠ 41 → M3 j = M j := fun j y1 y2 => by rw [p1 j y1 y2, k2 j y1]
  have r3 : ∀ x, x ≠ 5 → x ≠ 9 → M3 29 x = M 29 x := fun x y1 y2 => by rw [p2 x y2, e2, xri y1]
  obtain ⟨hp3, gr3, -⟩ := hpC_cg (M' := M3) hl.1.1 (k3 30 (by decide) (by decide)) (k3 34 (by decide) (by decide)) (fun j hj => k3 j (fun z => nC_29 hs (by rw [← z]; exact hj)) (fun z => nC_41 hs (by rw [← z]; exact hj)))
  have l3 : lpS t e M cs cl e M3 cs cl := lpS_of hl.1 ⟨hp3, hl.1.2⟩ (fun j y1 y2 _ => k3 j y1 (fun z => y2 (by omega))) (fun x y1 y2 _ _ _ => r3 x y1 y2)
  have hl3 := lpS_trans hl l3
  obtain ⟨-, -, -, -, hT3, hC3, hY3, -, -⟩ := fxT_at hfx hl3
  have hR3 : cR D M3 (pi i) (nd i).1 (nd i).2.1 (nd i).2.2.2.2 := by
    refine ⟨p3, fun r q hr => ?_⟩
    have hrr : r < (nd i).2.2.2.2.length := (List.getElem?_eq_some_iff.mp hr).1
    rw [p4 r hrr, k2 39 (by decide)]
    exact crw_gr gr3 (hwi.2 r q hr)
  have e30 : M3 30 = M 30 := k3 30 (by decide) (by decide)
  have e34 : M3 34 = M 34 := k3 34 (by decide) (by decide)
  have z5 : M3 29 5 = ws.length := by rw [p2 5 (by decide), r25]
  have z38 : M3 38 = M 38 := k3 38 (by decide) (by decide)
  have hW3 : wtg M3 ws := by
    refine ⟨z5, fun k x hk => ?_⟩
    have := hW.2 (k + 1) x hk
    rw [List.length_cons] at this
    rw [z38, ← this]; congr 1; omega
  have hz : M3 34 0 + 172 * (25 - ((nd i).2.2.2.2.length : Int)) < 499000 := by
    rw [e34]
    clear hov hgo hgd hwt' hwi hW hW3 hR3 k2 k3 p1 p2 p4 r3 c2 n2 n3 n4
    omega
  have hz3 : M3 30 0 + 2 * (25 - ((nd i).2.2.2.2.length : Int)) < 7900 := by
    rw [e30]
    clear hov hgo hgd hwt' hwi hW hW3 hR3 k2 k3 p1 p2 p4 r3 c2 n2 n3 n4
    omega
  refine s_norm (d := d) (t := t) (R := fun y e9 M8 => rg y ∧ ((¬ y = (-1 : Int) → C_Bu_growTest e9 (d + 6) i y M8 (fun e11 M10 => yLe e9 e11 ∧ C_Bu_stands_30 e11 (d + 6) mq (x2 + 1) M10 Q)) ∧ (¬ (¬ y = (-1 : Int)) → C_Bu_endNode e9 (d + 6) i M8 (fun M12 => C_Bu_stands_30 e9 (d + 6) mq (x2 + 1) M12 Q)))) hw hwb n3 (by omega) n1 n2 hs l3.1 hC3 hT3 (by rw [k3 t (by omega) (by omega)]; exact b1) hR3 hz hz3 (fun hn e' M' cs' cl' y hy g1 g2 g3 => ?_) (fun rows' at_ hn hbr e' M' cs' cl' g1 g2 g3 => ?_)
  · have hl' := lpS_trans hl3 g1
    obtain ⟨hs', -, -, -, hT', -⟩ := fxT_at hfx hl'
    refine ⟨⟨by omega, by omega⟩, fun _ => c_Bu_growTest (c_Bu_growTest_0 hs' ⟨t, ⟨hT'.2.1, hT'.1⟩, by rw [g2]; exact ⟨by omega, by omega⟩, fun z => absurd z (by rw [g2]; decide), fun _ => ⟨yLe.rf, ?_⟩⟩), fun z => absurd (by omega) z⟩
    exact hov e' M' g1.2.1 ⟨cs', cl', hl', g2, fin_rows hv.1 hn, by rw [g3, z5]; omega⟩
  · have hl' := lpS_trans hl3 (lpS_std (t := t) g1)
    have l12 : t + 12 < e.1 := hT.1.2.1
    have f := g1.2.2.2.1.1
    have hf8 : ∀ j, t ≤ j → j ≤ t + 12 → M' j = M j := fun j y1 y2 => by
      rw [f j (by omega) (by omega) (by omega) (by omega) (by omega) (by omega) (by omega) (tr_nC hT.1 y1 y2), k3 j (by omega) (by omega)]
    have c59 := hs.1
    have x39 : M' 39 = M 39 := by rw [f 39 (by omega) (by decide) (by decide) (by decide) (by decide) (by decide) (by decide) (nC_a (caa_39 hs) (by decide)), k3 39 (by decide) (by decide)]
    have x40 : M' 40 = M 40 := by rw [f 40 (by omega) (by decide) (by decide) (by decide) (by decide) (by decide) (by decide) (nC_a (caa_40 hs) (by decide)), k3 40 (by decide) (by decide)]
    have x38 : M' 38 = M3 38 := f 38 (by omega) (by decide) (by decide) (by decide) (by decide) (by decide) (by decide) (nC_a (caa_38 hs) (by decide))
    have hS : nmS t M M' (nd i).2.2.2.2.length rows'.length := by
      have := g1.2.2.2.2.2
      rw [e30, e34] at this
      rw [e30] at g3
      exact ⟨hf8, x39, x40, grL_trans gr3 g1.2.2.2.2.1, g3, this⟩
    have hW' : wtg M' ws := wtg_cg2 (g1.2.2.2.1.2 5 (by decide) (by decide) (by decide)) x38 hW3
    by_cases hat : at_ < 0
    · rw [if_pos hat]
      refine ⟨⟨by omega, by omega⟩, fun z => absurd rfl z, fun _ => s_endStep (d := d + 4) (e := e) hw hwb hfx hl' hv hpa hn hat hS g2 hW' (fun M'' ho => hov e' M'' g1.2.1 ho) (fun M'' v ws' ho => hgo e' M'' v ws' g1.2.1 ho)⟩
    · rw [if_neg hat]
      obtain ⟨hN', hcs⟩ := wfN_shp hw n1 hn
      have haw : 0 ≤ at_ ∧ at_ < (nd i).1 := by
        rcases hcs with z | z
        · omega
        · exact z.1
      have hca := hN'.1.2.2.1 at_ haw.1 haw.2
      have hpb := n3.1 _ hca.1.1 hca.1.2
      refine ⟨⟨by omega, by omega⟩, fun _ => s_growStep (d := d) hw hwt hwb hfx hl' hv hpa hn (by omega) (hbr (by omega)) hS g2 hW' (fun M'' ho => ⟨yLe.rf, hov e' M'' g1.2.1 ho⟩) (fun e'' M'' v ws' hle ho => ⟨hle, hgo e'' M'' v ws' (g1.2.1.tr hle) ho⟩), fun z => absurd (by omega) z⟩
/-- the loop -/
theorem s_lpS {Q : Int → yE → xM → Prop} (hw : wfP D) (hwt : wfT D) (hwb : wfB D) (hfx : fxT D t mq m e0 M0)
    (hov : ∀ e' M', yLe e0 e' → ovT D t m e0 M0 cs0 cl0 e' M' → Q 0 e' (xup M' mq 7 0)) (hgo : ∀ e' M' evs, yLe e0 e' → goT D t m e0 M0 cs0 cl0 e' M' evs [] → Q 1 e' (xup M' mq 7 0)) : ∀ (n : Nat) (e : yE) (M : xM) (evs : List aV) (ws : List Int), evs.length + n = 120 → yLe e0 e → goT D t m e0 M0 cs0 cl0 e M evs ws → C_Bu_stands_30 e (d + 6) mq evs.length M Q := by
  intro n
  induction n with
  | zero =>
    intro e M evs ws hn hle hg
    cases ws with
    | nil => exact s_fine (by omega) hfx hg (hgo e M evs hle hg)
    | cons i ws =>
      obtain ⟨cs, cl, nd, pi, hl, hv, hW, -⟩ := hg
      obtain ⟨b1, b2, b3, -⟩ := hv.2.1
      rw [List.length_cons] at b2
      omega
  | succ n ih =>
    intro e M evs ws hn hle hg
    cases ws with
    | nil => exact s_fine (by omega) hfx hg (hgo e M evs hle hg)
    | cons i ws =>
      refine s_stepS hw hwt hwb hfx hg rfl (fun e' M' hle' ho => s_over (by omega) hfx ho (hov e' M' (hle.tr hle') ho)) (fun e' M' v ws' hle' ho => ?_)
      have := ih e' M' (evs ++ [v]) ws' (by rw [List.length_append, List.length_singleton]; omega) (hle.tr hle') ho
      rw [List.length_append, List.length_singleton] at this
      exact this
end CLU
