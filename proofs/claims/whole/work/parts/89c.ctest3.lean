/-! ===== the class: growTest, whole ===== -/
section CGX
variable {D E : xM} {d : Nat} {t : Nat} {π col : Int → Int} {w np b at_ fp lo i : Int}
theorem brs_ok {rows : List aR} (hw : wfP D) (hn : wfN D w col np E rows) (hat : 0 ≤ at_ ∧ at_ < w) (hne : ∀ q ∈ rows, ¬ (0 ≤ q.2.1 at_ ∧ D 68 (q.2.1 at_) = 4)) : (∀ k ∈ kys D at_ rows [], rg k ∧ okK D (E 88 (col at_)) k false ∧ (0 < E 88 (col at_) → 0 ≤ k ∧ k < D 60 (E 88 (col at_)))) ∧ (kys D at_ rows []).length ≤ 24 ∧ (0 ≤ lA (kys D at_ rows []) 0 ∧ lA (kys D at_ rows []) 0 ≤ (kys D at_ rows []).length) := by
  have hl := kys_len (D := D) (at_ := at_) rows []
  have h24 := hn.2.2
  rw [List.length_nil] at hl
  have l3 := lA_ge (kys D at_ rows []) 0
  have l4 := lA_le (kys D at_ rows []) 0
  refine ⟨fun k hk => ?_, by omega, by omega⟩
  obtain ⟨a, b⟩ := key_ok hw hn hat hne hk
  exact ⟨b, a, fun z => a rfl (by omega)⟩
theorem s_gT114 {e : yE} {cs cl : Nat} {M : xM} {Q : yE → xM → Prop} {rows : List aR} {ws : List Int} {x4 : Int} {n : Nat} (hw : wfP D) (hwt : wfT D) (hwb : wfB D) (hpi : piO π np b) (hb : b ≤ fp) (hb0 : 0 ≤ b) (hN : wfN D w col np E rows) (hat : 0 ≤ at_ ∧ at_ < w) (hlo : 0 ≤ lo) (hnd : n = (brs D (E 88 (col at_)) at_ rows).length) (hn : lo + n ≤ 120) (hu : ∀ r ∈ rows, ¬ (0 ≤ r.2.1 at_ ∧ D 68 (r.2.1 at_) = 4) ∧ nmU D w r) (hx4 : x4 = if E 88 (col at_) = 0 ∨ ((kys D at_ rows []).length : Int) < D 60 (E 88 (col at_)) then 1 else 0)
    (hs : CSh e) (hP : hpP e M cs cl) (hC : pCl M D) (hY : tCl M D) (hT : hTr e M t) (hR : cR D M π w col rows) (hL : lbl M (kys D at_ rows [])) (hW : wtg M ws) (hwl : ws.length + n ≤ 120) (hfp : M t 4 = fp) (hfp2 : fp + 3 * n ≤ 360) (hty : M (t + 2) (π (col at_)) = E 88 (col at_)) (hz : M 34 0 + 172 * rows.length < 499500) (hz3 : M 30 0 + 2 * rows.length < 8000)
    (h : ∀ e' M' M'' cs' cl', gAl D t π w col np (E 88 (col at_)) at_ rows lo n fp (brs D (E 88 (col at_)) at_ rows) e M cs cl e' M' cs' cl' → (∀ j, j ≠ 29 → j ≠ 38 → M'' j = M' j) → (∀ y, y ≠ 5 → M'' 29 y = M' 29 y) → wtg M'' (rng lo n ++ ws) → Q e' M'') :
    C_Bu_growTest_114 e (d + 5) (π (col at_)) x4 n lo 0 M Q := by
  obtain ⟨hK1, hK2, hK3⟩ := brs_ok hw hN hat (fun r hr => (hu r hr).1)
  have ho : ∀ r ∈ rows, okR D w col np E r ∧ ¬ (0 ≤ r.2.1 at_ ∧ D 68 (r.2.1 at_) = 4) ∧ nmU D w r := fun r hr => ⟨hN.2.1 r hr, hu r hr⟩
  have hl := hN.2.2
  have hle := brs_le (D := D) (at_ := at_) (ty := E 88 (col at_)) rows
  have hca := hN.1.2.2.1 at_ hat.1 hat.2
  have fin : ∀ (e1 : yE) (M1 : xM) (cs1 cl1 : Nat), gAl D t π w col np (E 88 (col at_)) at_ rows lo n fp (brs D (E 88 (col at_)) at_ rows) e M cs cl e1 M1 cs1 cl1 → C_Bu_putOff e1 (d + 5) lo n M1 (fun M2 => Q e1 M2) := by
    intro e1 M1 cs1 cl1 hg
    have hs1 := hs.le hg.1.2.1
    obtain ⟨-, -, -, -, hW1⟩ := stB_all (ks := []) (ws := ws) hs hT hg.1 hC hY hR
    exact s_putOff (d := d + 4) hs1 (hW1 hW) hwl (fun M2 p1 p2 p3 => h e1 M1 M2 cs1 cl1 hg p1 p2 p3)
  have key : ∀ (B A : List Int) (e1 : yE) (M1 : xM) (cs1 cl1 : Nat), kys D at_ rows [] = A ++ B → gAl D t π w col np (E 88 (col at_)) at_ rows lo n fp (A.map (fun k => (k, false))) e M cs cl e1 M1 cs1 cl1 → C_Bu_growTest_114 e1 (d + 5) (π (col at_)) x4 n lo A.length M1 Q := by
    intro B
    induction B with
    | nil =>
      intro A e1 M1 cs1 cl1 hk hg
      rw [List.append_nil] at hk
      have hs1 := hs.le hg.1.2.1
      obtain ⟨-, -, -, hL1, -⟩ := stB_all (ks := kys D at_ rows []) (ws := ws) hs hT hg.1 hC hY hR
      have hL1 := hL1 hL
      have h11 := hL1.1
      have hA24 : A.length ≤ 24 := by rw [← hk]; exact hK2
      rw [hk] at h11
      refine c_Bu_growTest_114 hs1 ⟨⟨⟨by omega, by omega⟩, ⟨by omega, by omega⟩⟩, fun _ => ?_, fun z => absurd (by omega) z⟩
      by_cases c : E 88 (col at_) = 0 ∨ ((kys D at_ rows []).length : Int) < D 60 (E 88 (col at_))
      · rw [if_pos c] at hx4
        refine ⟨by rw [hx4]; exact ⟨by omega, by omega⟩, fun z => by omega, fun _ => ?_⟩
        refine s_leastAbsent (d := d + 4) hs1 hL1 hK2 (fun k hk => (hK1 k hk).1) ?_
        have hbr : brs D (E 88 (col at_)) at_ rows = A.map (fun k => (k, false)) ++ [(lA (kys D at_ rows []) 0, true)] := by
          unfold brs; rw [if_pos c, hk]
        have hAl : (A.map (fun k : Int => (k, false))).length = A.length := List.length_map _
        have hbl : n = A.length + 1 := by rw [hnd, hbr, List.length_append, hAl]; rfl
        rw [h11, ← hAl]
        have hsp : nPS D at_ rows (brs D (E 88 (col at_)) at_ rows) = nPS D at_ rows (A.map (fun k => (k, false))) + nPt D at_ (lA (kys D at_ rows []) 0) true rows := by rw [hbr, nPS_app]; rfl
        refine s_grow1 (oth := true) (d := d) (n := n) hw hwt hwb hpi hb hb0 hN.1 hat hlo hn ho hl ⟨by omega, by omega⟩ (fun z => by cases z) (fun z => ?_) hs hC hY hT hR hfp2 hty hz hz3 (by omega) (by omega) hg ?_
        · rcases c with c | c
          · omega
          · omega
        · intro e5 M5 cs5 cl5 hg5 hy5
          rw [← hbr] at hg5
          exact ⟨hy5, fin e5 M5 cs5 cl5 hg5⟩
      · rw [if_neg c] at hx4
        refine ⟨by rw [hx4]; exact ⟨by omega, by omega⟩, fun _ => fin e1 M1 cs1 cl1 ?_, fun z => by omega⟩
        have hbr : brs D (E 88 (col at_)) at_ rows = A.map (fun k => (k, false)) := by
          unfold brs; rw [if_neg c, hk, List.append_nil]
        rw [hbr]; exact hg
    | cons y B ih =>
      intro A e1 M1 cs1 cl1 hk hg
      have hs1 := hs.le hg.1.2.1
      obtain ⟨-, -, -, hL1, -⟩ := stB_all (ks := kys D at_ rows []) (ws := ws) hs hT hg.1 hC hY hR
      have hL1 := hL1 hL
      have h11 := hL1.1
      have hlen : (kys D at_ rows []).length = A.length + B.length + 1 := by rw [hk, List.length_append, List.length_cons]; omega
      have hAl : (A.map (fun k : Int => (k, false))).length = A.length := List.length_map _
      have hy : M1 42 A.length = y := hL1.2 A.length y (by rw [hk, List.getElem?_append_right (Nat.le_refl _), Nat.sub_self]; rfl)
      obtain ⟨y1, y2, y3⟩ := hK1 y (by rw [hk]; simp)
      refine c_Bu_growTest_114 hs1 ⟨⟨⟨by omega, by omega⟩, ⟨by omega, by omega⟩⟩, fun z => absurd z (by omega), fun _ => ⟨by omega, ?_⟩⟩
      rw [hy, show lo + (A.length : Int) = lo + ((A.map (fun k : Int => (k, false))).length : Nat) by rw [hAl]]
      have hbl : (kys D at_ rows []).length ≤ n := by rw [hnd]; unfold brs; rw [List.length_append, List.length_map]; omega
      have hsp : nPS D at_ rows (A.map (fun k => (k, false))) ≤ nPS D at_ rows (brs D (E 88 (col at_)) at_ rows) := by unfold brs; rw [hk, List.map_append, nPS_app, nPS_app]; omega
      refine s_grow1 (oth := false) (d := d) (n := n) hw hwt hwb hpi hb hb0 hN.1 hat hlo hn ho hl y1 y2 y3 hs hC hY hT hR hfp2 hty hz hz3 (by omega) (by omega) hg ?_
      intro e5 M5 cs5 cl5 hg5 hy5
      have := ih (A ++ [y]) e5 M5 cs5 cl5 (by rw [hk]; simp) (by rw [List.map_append]; exact hg5)
      rw [List.length_append, List.length_singleton, show ((A.length + 1 : Nat) : Int) = (A.length : Int) + 1 by omega] at this
      exact ⟨hy5, this⟩
  have := key (kys D at_ rows []) [] e M cs cl rfl ⟨stB_refl hP, fun j k o hj => by simp at hj, by simp [nPS], by simp [nPS], by rw [hfp]; simp⟩
  exact this
end CGX
