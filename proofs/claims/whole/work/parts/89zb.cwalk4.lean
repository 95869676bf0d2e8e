/-! ===== the class: follow(), from any node ===== -/
section CWN
variable {D : xM} {d : Nat} {e : yE} {k mq a2 n2 : Nat} {m : Int} {nd : Int → aN} {pi : Int → Int → Int}
theorem rI_chB {w np at_ : Int} {col : Int → Int} {E : xM} {rows : List aR} {key : Int} {oth : Bool} (hg : wOK D) (hn : wfN D w col np E rows) (hr : ∀ r ∈ rows, rI D m w r) (hat : 0 ≤ at_ ∧ at_ < w) (hne : ∀ q ∈ rows, ¬ (0 ≤ q.2.1 at_ ∧ D 68 (q.2.1 at_) = 4)) (hkk : okK D (E 88 (col at_)) key oth) : ∀ r ∈ (chB D w col np E at_ rows key oth).2.2.2.2, rI D m (chB D w col np E at_ rows key oth).1 r := by
  obtain ⟨gp, gt, gv, gb, ge⟩ := hg
  intro r' hr'
  obtain ⟨r, hr1, hr2, hr3⟩ := bRs_mem rows hr'
  rw [hr2]
  have hca := hn.1.2.2.1 at_ hat.1 hat.2
  exact rI_bRw gp gt gb ge hn.1 (bMn_rg gt hca.2.2 hkk) hat (hn.2.1 r hr1).1 (hne r hr1) hr3 rfl (hr r hr1)
theorem s_fol29 (hg : wOK D) (hs : CSh e) (hk : XSh8 k e) (h48 : k = 45 ∨ k = 48) (hq : XSh3 mq e) (h99 : 99 < mq) (ha : yA e a2 1 n2) : ∀ (n kk : Nat) (i : Int) (x5 : Nat) (va : Int → Int) (rest : List aN) (M : xM) (Q : Int → xM → Prop), n ≤ kk → n + x5 ≤ 120 → fin_ D m n (nd i :: rest) ≠ none → wyI D k mq m M nd pi i va → (∀ M', wyO k (wk D m kk (nd i) va) M M' → Q (wk D m kk (nd i) va).2.2.1 M') → C_Wa_follow_29 e (d + 3) k mq a2 n2 i x5 M Q := by
  have hg' := hg
  obtain ⟨gp, gt, gv, gb, ge⟩ := hg'
  intro n
  induction n using Nat.strongRecOn with
  | ind n IH =>
    intro kk i x5 va rest M Q hkk hx5 hfin hI h
    have hI' := hI
    obtain ⟨⟨evs, hT⟩, hV, hG, hi, hrI, hval, hva, hst⟩ := hI'
    obtain ⟨-, ⟨t0, t1, t2, t4, t5⟩, hnds, -⟩ := hT
    obtain ⟨⟨n1, n2', n3, n4⟩, hpr⟩ := hnds i hi.1 hi.2
    obtain ⟨n, rows', a, rfl, hsh, hch⟩ := fin_node (w := (nd i).1) (col := (nd i).2.1) (np := (nd i).2.2.1) (E := (nd i).2.2.2.1) (rows := (nd i).2.2.2.2) hfin
    obtain ⟨kk, rfl⟩ : ∃ k', kk = k' + 1 := ⟨kk - 1, by omega⟩
    obtain ⟨wf2, hcase⟩ := wfN_shp gp n1 hsh
    obtain ⟨-, o2⟩ := out_shp (va := va) gp gt gb ge n1.1 hsh (fun q hq => ⟨(n1.2.1 q hq).1, hrI q hq⟩) n1.2.2
    obtain ⟨rows2, at2, hsh2, p0, p1⟩ := hpr
    obtain ⟨e1, e2⟩ := Prod.mk.inj (Option.some.inj (hsh2.symm.trans hsh))
    subst e1; subst e2
    have hi120 : 0 ≤ i ∧ i < 120 := by omega
    have hpi : ∀ q, 0 ≤ q → q < (nd i).2.2.1 → 0 ≤ pi i q ∧ pi i q < 360 := fun q q0 q1 => by have := n3.1 q q0 q1; omega
    rcases hcase with ⟨z, hA⟩ | ⟨hat, hne0, hne⟩
    · subst z
      obtain ⟨f1, f2⟩ := p1 (by decide)
      cases rows2 with
      | nil =>
        have hw : wk D m (kk + 1) (nd i) va = (0, 0, -1, fun _ => -1) := wk_fail hsh
        have k3 : M (mq + 8) i = 3 := f1 rfl
        rw [hw] at h
        exact c_Wa_follow_29 hs hk hq ha ⟨⟨by omega, by omega⟩, fun z => absurd z (by omega), fun _ => ⟨hi120, by rw [k3]; exact ⟨by omega, by omega⟩, fun _ => h M ⟨fun _ _ _ _ => rfl, fun _ _ _ => rfl, (Int.add_zero _).symm, (Int.add_zero _).symm, hst⟩, fun z => absurd k3 z⟩⟩
      | cons r rs =>
        obtain ⟨f3, f4, f5, f6⟩ := f2 r rs rfl
        have hor := wf2.2.1 r (by simp)
        have hw : wk D m (kk + 1) (nd i) va = _ := wk_leaf hsh
        have hall : ∀ j, 0 ≤ j → j < (nd i).1 → r.2.1 j < 0 := by
          rcases fOp_is (f := r.2.1) (nd i).1.toNat 0 with ⟨-, z⟩ | ⟨z, -, -, -⟩
          · intro j j0 j1; exact z j j0 (by omega)
          · have hA : fOp r.2.1 (nd i).1.toNat 0 = -1 := hA
            omega
        by_cases c1 : D 79 (12 * m + r.1) < 0
        · have k3 : M (mq + 8) i = 2 := f5 c1
          rw [hw, if_pos c1] at h
          have hgo : C_Wa_follow_100 e (d + 3) k mq a2 n2 i M Q := s_f100 (d := d + 1) (π := pi i) (va := va) hs hk h48 hq h99 ha hi120 f3 f4 hor.2.2 hpi hva hst (fun M' g1 g2 => h M' ⟨fun j y1 y2 y3 => g1 j y2, fun x y1 y2 => by rw [g1 k (by omega)], by rw [g1 k (by omega)]; exact (Int.add_zero _).symm, by rw [g1 k (by omega)]; exact (Int.add_zero _).symm, g2⟩)
          refine c_Wa_follow_29 hs hk hq ha ⟨⟨by omega, by omega⟩, fun z => absurd z (by omega), fun _ => ⟨hi120, by rw [k3]; exact ⟨by omega, by omega⟩, fun z => absurd z (by rw [k3]; decide), fun _ => ⟨hi120, by rw [k3]; exact ⟨by omega, by omega⟩, fun _ => ⟨hi120, by rw [k3]; exact ⟨by omega, by omega⟩, fun _ => hgo, fun z => absurd k3 z⟩, fun z => absurd (by rw [k3]; decide) z⟩⟩⟩
        · obtain ⟨k3', g8, g7, g6, gnd, gpi⟩ := f6 c1
          have k3 : M (mq + 8) i = 1 := k3'
          rw [hw, if_neg c1] at h
          have hrr := hor.2.1
          obtain ⟨q3, q4⟩ := hG r.1 hrr.1 hrr.2
          have hgd := (o2 r (by simp)).2.1 (by omega)
          have told : ∀ x, (x = D 79 (12 * m + r.1) ∨ x = D 80 (12 * m + r.1)) → (0 ≤ x ∧ x < 16) ∧ (0 ≤ r.2.2 x ∧ r.2.2 x < (nd i).2.2.1) := by
            intro x hx
            obtain ⟨u1, u2⟩ := hgd x hx
            refine ⟨u1, ?_⟩
            rcases u2 with u2 | ⟨j, hj, hj2, -⟩
            · rcases hor.2.2 x u1.1 u1.2 with y | y
              · omega
              · exact y
            · have := hall j hj.1 hj.2; omega
          obtain ⟨la, hla⟩ : ∃ la, la = D 79 (12 * m + r.1) := ⟨_, rfl⟩
          obtain ⟨mo, hmo⟩ : ∃ mo, mo = D 80 (12 * m + r.1) := ⟨_, rfl⟩
          obtain ⟨la1, la2⟩ := told la (Or.inl hla)
          obtain ⟨mo1, mo2⟩ := told mo (Or.inr hmo)
          rw [← hla, ← hmo] at h
          rw [← hla] at q3
          rw [← hmo] at q4
          obtain ⟨vx1, -⟩ := hval _ la2.1 la2.2
          obtain ⟨vy1, -⟩ := hval _ mo2.1 mo2.2
          have h300 := gv.1.2
          have lx := (hV _ vx1.1 vx1.2).1
          have ly := (hV _ vy1.1 vy1.2).1
          have rx := (gv.2 _ vx1.1 vx1.2).1
          have ry := (gv.2 _ vy1.1 vy1.2).1
          have fpx : M (mq + 17) (i * 16 + la) = pi i (r.2.2 la) := by have := f4 la la1.1 la1.2; rw [if_neg (by omega)] at this; exact this
          have fpy : M (mq + 17) (i * 16 + mo) = pi i (r.2.2 mo) := by have := f4 mo mo1.1 mo1.2; rw [if_neg (by omega)] at this; exact this
          refine c_Wa_follow_29 hs hk hq ha ⟨⟨by omega, by omega⟩, fun z => absurd z (by omega), fun _ => ⟨hi120, by rw [k3]; exact ⟨by omega, by omega⟩, fun z => absurd z (by rw [k3]; decide), fun _ => ⟨hi120, by rw [k3]; exact ⟨by omega, by omega⟩, fun _ => ⟨hi120, by rw [k3]; exact ⟨by omega, by omega⟩, fun z => absurd z (by rw [k3]; decide), fun _ => ?_⟩, fun z => absurd (by rw [k3]; decide) z⟩⟩⟩
          refine s_asks (d := d + 1) hs hk h48 hq h99 hi120 f3 hrr q3 q4 la1 mo1 fpx fpy (hpi _ la2.1 la2.2) (hpi _ mo2.1 mo2.2) (hva _ la2.1 la2.2) (hva _ mo2.1 mo2.2) (by omega) (by omega) (by rw [lx]; exact rx) (by rw [ly]; exact ry) ?_
          rw [lx, ly]
          have hfr : ∀ j, j ≠ k → xup M k 3 (M k 3 + 1) j = M j := fun j hj => xrd hj
          obtain ⟨M1, eM1⟩ : ∃ M1, M1 = xup M k 3 (M k 3 + 1) := ⟨_, rfl⟩
          rw [← eM1] at hfr ⊢
          have m13 : M1 k 3 = M k 3 + 1 := by rw [eM1, xrs]
          have m1x : ∀ x, x ≠ 3 → M1 k x = M k x := fun x hx => by rw [eM1, xri hx]
          refine ⟨bI_rg, fun z => ?_, fun z => ?_⟩
          · rw [bI_0] at z
            rw [if_neg z] at h
            have ec : chd D m (nd i).1 (nd i).2.1 (nd i).2.2.1 (nd i).2.2.2.1 (r :: rs) (-1) = [((nd i).1, (nd i).2.1, (nd i).2.2.1, (nd i).2.2.2.1, rs)] := by
              unfold chd
              rw [if_pos (by omega)]
              show (if D 79 (12 * m + r.1) < 0 then _ else _) = _
              rw [if_neg c1]
            obtain ⟨k', rest', hk', hf⟩ := hch ((nd i).1, (nd i).2.1, (nd i).2.2.1, (nd i).2.2.2.1, rs) (by rw [ec]; simp)
            have g7' : i < M (mq + 12) i ∧ M (mq + 12) i < M (mq + 5) 1 := g7
            have gnd' : nd (M (mq + 12) i) = ((nd i).1, (nd i).2.1, (nd i).2.2.1, (nd i).2.2.2.1, rs) := gnd
            have gpi' : pi (M (mq + 12) i) = pi i := gpi
            refine ⟨hi120, ?_⟩
            rw [hfr (mq + 12) (by omega)]
            obtain ⟨b, hb⟩ : ∃ b, b = M (mq + 12) i := ⟨_, rfl⟩
            rw [← hb] at g7' gnd' gpi' ⊢
            obtain ⟨w1, w2, w3, w4, w5⟩ := wy_all h48 h99 (fun j y1 _ => hfr j y1) hI
            have := IH k' (by omega) kk b (x5 + 1) va rest' M1 Q (by omega) (by omega) (by rw [gnd']; exact hf) ⟨w1, w2, w3, by rw [w4]; omega, by rw [gnd']; exact fun q hq => (o2 q (List.mem_cons_of_mem _ hq)).2, by rw [gnd']; exact hval, by rw [gnd', gpi', hfr (k + 2) (by omega)]; exact hva, w5⟩ (fun M' hM' => ?_)
            · exact this
            · rw [gnd'] at hM' ⊢
              obtain ⟨u1, u2, u3, u4, u5⟩ := hM'
              refine h M' ⟨fun j y1 y2 y3 => by rw [u1 j y1 y2 y3, hfr j y1], fun x y1 y2 => by rw [u2 x y1 y2, m1x x y2], by rw [u3, m1x 2 (by decide)], by rw [u4, m13, Int.add_assoc, Int.add_comm 1], u5⟩
          · have z' := Classical.not_not.mp (fun y => z (bI_0.mpr y))
            rw [if_pos z'] at h
            exact s_f100 (d := d + 1) (π := pi i) (va := va) hs hk h48 hq h99 ha hi120 (by rw [hfr (mq + 9) (by omega)]; exact f3) (by rw [hfr (mq + 17) (by omega)]; exact f4) hor.2.2 hpi (by rw [hfr (k + 2) (by omega)]; exact hva) (by rw [hfr (k + 1) (by omega)]; exact hst) (fun M' g1 g2 => h M' ⟨fun j y1 y2 y3 => by rw [g1 j y2, hfr j y1], fun x y1 y2 => by rw [g1 k (by omega), m1x x y2], by rw [g1 k (by omega), m1x 2 (by decide)]; exact (Int.add_zero _).symm, by rw [g1 k (by omega), m13], g2⟩)
    · obtain ⟨k3', k5, k8, kbr⟩ := p0 hat.1
      have k3 : M (mq + 8) i = 0 := k3'
      have hca := wf2.1.2.2.1 at2 hat.1 hat.2
      obtain ⟨q, hq0⟩ : ∃ q, q = (nd i).2.1 at2 := ⟨_, rfl⟩
      obtain ⟨v1, v2⟩ := hval _ hca.1.1 hca.1.2
      have h300 := gv.1.2
      have hplq := hpi _ hca.1.1 hca.1.2
      have hlab := hV _ v1.1 v1.2
      have hrg := (gv.2 _ v1.1 v1.2).1
      have hbo := brs_ok gp wf2 hat hne
      have hbk : ∀ kk' o, (kk', o) ∈ brs D ((nd i).2.2.2.1 88 ((nd i).2.1 at2)) at2 rows2 → rg kk' := by
        intro kk' o hm
        unfold brs at hm
        rcases List.mem_append.mp hm with z | z
        · obtain ⟨y, hy, ee⟩ := List.mem_map.mp z
          rw [← (Prod.mk.inj ee).1]; exact (hbo.1 y hy).1
        · split at z
          · have ee : (kk', o) = (lA (kys D at2 rows2 []) 0, true) := by simpa using z
            rw [(Prod.mk.inj ee).1]; exact ⟨by omega, by omega⟩
          · cases z
      have hw : wk D m (kk + 1) (nd i) va = _ := wk_test hsh hat.1
      rw [hw] at h
      have hcd : chd D m (nd i).1 (nd i).2.1 (nd i).2.2.1 (nd i).2.2.2.1 rows2 at2 = chT D (nd i).1 (nd i).2.1 (nd i).2.2.1 (nd i).2.2.2.1 at2 rows2 := by unfold chd; rw [if_neg (by omega)]
      rw [hcd, brs_ch] at hch
      have hall : D 65 (va ((nd i).2.1 at2)) ∈ kys D at2 rows2 [] ∨ (D 65 (va ((nd i).2.1 at2)) ∉ kys D at2 rows2 [] ∧ ((nd i).2.2.2.1 88 ((nd i).2.1 at2) = 0 ∨ ((kys D at2 rows2 []).length : Int) < D 60 ((nd i).2.2.2.1 88 ((nd i).2.1 at2)))) := by
        by_cases c1 : D 65 (va ((nd i).2.1 at2)) ∈ kys D at2 rows2 []
        · exact Or.inl c1
        · exact Or.inr ⟨c1, keys_all hg wf2 hat hne hval c1⟩
      obtain ⟨L, eL⟩ : ∃ L, L = brs D ((nd i).2.2.2.1 88 ((nd i).2.1 at2)) at2 rows2 := ⟨_, rfl⟩
      have hpick := fun (j : Nat) kk' o (hj : L[j]? = some (kk', o)) (h1 : j + 1 = L.length ∨ kk' = D 65 (va ((nd i).2.1 at2))) (h2 : ∀ (j' : Nat) kk'' o', j' < j → L[j']? = some (kk'', o') → kk'' ≠ D 65 (va ((nd i).2.1 at2))) => brs_pick (D := D) (ty := (nd i).2.2.2.1 88 ((nd i).2.1 at2)) (at_ := at2) (rows := rows2) (hd := D 65 (va ((nd i).2.1 at2))) (j := j) (kk := kk') (o := o) (by rw [← eL]; exact hj) (by rw [← eL]; exact h1) (by rw [← eL]; exact h2)
      rw [← eL] at k8 kbr hbk hch
      have hL1 : 1 ≤ L.length := by
        rcases hall with c1 | ⟨c1, c2⟩
        · have : (D 65 (va ((nd i).2.1 at2)), false) ∈ L := by rw [eL]; unfold brs; exact List.mem_append_left _ (List.mem_map.mpr ⟨_, c1, rfl⟩)
          exact List.length_pos_of_mem this
        · have : (lA (kys D at2 rows2 []) 0, true) ∈ L := by rw [eL]; unfold brs; rw [if_pos c2]; exact List.mem_append_right _ (by simp)
          exact List.length_pos_of_mem this
      have k7 : ∃ b0, M (mq + 5 + 7) i = b0 := ⟨_, rfl⟩
      obtain ⟨b0, k7⟩ := k7
      rw [k7] at kbr
      have hb0 : 0 ≤ b0 ∧ b0 + L.length ≤ 120 := by
        have g1 := (kbr 0 _ _ (List.getElem?_eq_getElem (by omega))).1
        have g2 := (kbr (L.length - 1) _ _ (List.getElem?_eq_getElem (by omega))).1
        omega
      refine c_Wa_follow_29 hs hk hq ha ⟨⟨by omega, by omega⟩, fun z => absurd z (by omega), fun _ => ⟨hi120, by rw [k3]; exact ⟨by omega, by omega⟩, fun z => absurd z (by rw [k3]; decide), fun _ => ⟨hi120, by rw [k3]; exact ⟨by omega, by omega⟩, fun z => absurd k3 z, fun _ M3 e3 => ?_⟩⟩⟩
      have hfr : ∀ j, j ≠ k → M3 j = M j := fun j hj => by rw [e3, xrd hj]
      have m32 : M3 k 2 = M k 2 + 1 := by rw [e3, xrs]
      have m3x : ∀ x, x ≠ 2 → M3 k x = M k x := fun x hx => by rw [e3, xri hx]
      have a5 : M3 (mq + 5 + 5) i = pi i ((nd i).2.1 at2) := by rw [hfr _ (by omega)]; exact k5
      refine s_brO (d := d + 2) (v := va ((nd i).2.1 at2)) (hd := D 65 (va ((nd i).2.1 at2))) (L := L) (b0 := b0) hs hk hq.2.2.2.2.2.2.2 hi120 (by rw [a5]; exact hplq) (by rw [a5, hfr (k + 2) (by omega)]; exact hva _ hca.1.1 hca.1.2) (by omega) (by rw [hfr 11 (by omega)]; exact hlab.1) hrg (by rw [hfr _ (by omega)]; exact k7) (by rw [hfr _ (by omega)]; exact k8) hL1 hb0 (fun j kk' o hj => ?_) (fun j kk' o hj h1 h2 => ?_)
      · obtain ⟨g1, g2, g3, g4, g5, g6⟩ := kbr j kk' o hj
        exact ⟨by rw [hfr _ (by omega)]; exact g4, hbk kk' o (List.mem_of_getElem? hj), by rw [hfr _ (by omega)]; exact g5⟩
      · obtain ⟨g1, g2, g3, g4, g5, g6, g7, g8⟩ := kbr j kk' o hj
        obtain ⟨pk1, pk2⟩ := hpick j kk' o hj h1 h2
        have hmem : (kk', o) ∈ brs D ((nd i).2.2.2.1 88 ((nd i).2.1 at2)) at2 rows2 := by rw [← eL]; exact List.mem_of_getElem? hj
        obtain ⟨bk1, bk2⟩ := brs_key gp wf2 hat hne hmem
        obtain ⟨bm1, bm2, bm3⟩ := bMn_nPs (o := o) gt hca.2.2 bk2
        obtain ⟨k', rest', hk', hf⟩ := hch _ (List.mem_map.mpr ⟨(kk', o), by rw [eL]; exact hmem, rfl⟩)
        have hf : fin_ D m k' (chB D (nd i).1 (nd i).2.1 (nd i).2.2.1 (nd i).2.2.2.1 at2 rows2 kk' o :: rest') ≠ none := hf
        obtain ⟨⟨-, -, x3, -⟩, -⟩ := hnds (b0 + j) (by omega) g1.2
        rw [g3, g6] at x3
        have x3 : piO (piN (pi i) (nd i).2.2.1 (M (mq + 5 + 11) (b0 + j))) ((nd i).2.2.1 + bMn D ((nd i).2.2.2.1 88 ((nd i).2.1 at2)) kk' o) (M (mq + 5) 4) := x3
        have hrc := rI_chB (key := kk') (oth := o) hg wf2 (fun r hr => (o2 r hr).2) hat hne bk1
        have hnp0 := wf2.1.2.1
        -- the way goes on at the branch
        have goOn : ∀ (va' : Int → Int) (M4 : xM), (∀ y, y ≠ k + 2 → M4 y = M3 y) → valOK D (chB D (nd i).1 (nd i).2.1 (nd i).2.2.1 (nd i).2.2.2.1 at2 rows2 kk' o).2.2.1 (chB D (nd i).1 (nd i).2.1 (nd i).2.2.1 (nd i).2.2.2.1 at2 rows2 kk' o).2.2.2.1 va' → (∀ q, 0 ≤ q → q < (nd i).2.2.1 + bMn D ((nd i).2.2.2.1 88 ((nd i).2.1 at2)) kk' o → M4 (k + 2) (piN (pi i) (nd i).2.2.1 (M (mq + 5 + 11) (b0 + j)) q) = va' q) → (∀ M', wyO k ((wk D m kk (chB D (nd i).1 (nd i).2.1 (nd i).2.2.1 (nd i).2.2.2.1 at2 rows2 kk' o) va').1 + 1, (wk D m kk (chB D (nd i).1 (nd i).2.1 (nd i).2.2.1 (nd i).2.2.2.1 at2 rows2 kk' o) va').2) M M' → Q (wk D m kk (chB D (nd i).1 (nd i).2.1 (nd i).2.2.1 (nd i).2.2.2.1 at2 rows2 kk' o) va').2.2.1 M') → C_Wa_follow_29 e (d + 3) k mq a2 n2 (b0 + j) ((x5 : Int) + 1) M4 Q := by
          intro va' M4 y4 hv4 hq4 hend
          obtain ⟨w1, w2, w3, w4, w5⟩ := wy_all (M' := M4) h48 h99 (fun j y1 y2 => by rw [y4 j y2, hfr j y1]) hI
          have := IH k' (by omega) kk (b0 + j) (x5 + 1) va' rest' M4 Q (by omega) (by omega) (by rw [g3]; exact hf) ⟨w1, w2, w3, by rw [w4]; omega, by rw [g3]; exact hrc, by rw [g3]; exact hv4, by rw [g3, g6]; exact hq4, w5⟩ (fun M' hM' => ?_)
          · exact this
          · rw [g3] at hM' ⊢
            obtain ⟨u1, u2, u3, u4, u5⟩ := hM'
            refine hend M' ⟨fun j y1 y2 y3 => by rw [u1 j y1 y2 y3, y4 j y3, hfr j y1], fun x y1 y2 => by rw [u2 x y1 y2, y4 k (by omega), m3x x y1], by rw [u3, y4 k (by omega), m32, Int.add_assoc, Int.add_comm 1], by rw [u4, y4 k (by omega), m3x 3 (by decide)], u5⟩
        refine ⟨fun ho => ?_, fun ho => ?_⟩
        · rcases hall with c1 | ⟨c1, c2⟩
          · rw [(pk1 c1).2] at ho; cases ho
          · obtain ⟨e1, -⟩ := pk2 c1 c2
            rw [if_neg c1, if_pos c2] at h
            rw [← e1, ← ho] at h
            have hm0 : bMn D ((nd i).2.2.2.1 88 ((nd i).2.1 at2)) kk' o = 0 := by unfold bMn; rw [if_pos (Or.inl ho)]
            refine goOn va M3 (fun _ _ => rfl) (fun x x0 x1 => ?_) (fun x x0 x1 => ?_) h
            · have x1 : x < (nd i).2.2.1 + bMn D ((nd i).2.2.2.1 88 ((nd i).2.1 at2)) kk' o := x1
              have e88 : (chB D (nd i).1 (nd i).2.1 (nd i).2.2.1 (nd i).2.2.2.1 at2 rows2 kk' o).2.2.2.1 88 x = (nd i).2.2.2.1 88 x := by
                show bEn D (nd i).2.2.2.1 ((nd i).2.1 at2) (nd i).2.2.1 (bMn D ((nd i).2.2.2.1 88 ((nd i).2.1 at2)) kk' o) kk' o 88 x = _
                rw [bEn_88, if_neg (by omega)]
              rw [e88]; exact hval x x0 (by omega)
            · have e1 : piN (pi i) (nd i).2.2.1 (M (mq + 5 + 11) (b0 + j)) x = pi i x := by unfold piN; rw [if_pos (by omega)]
              rw [e1, hfr (k + 2) (by omega)]; exact hva x x0 (by omega)
        · rcases hall with c1 | ⟨c1, c2⟩
          · obtain ⟨e1, -⟩ := pk1 c1
            rw [if_pos c1] at h
            rw [← e1, ← ho] at h
            have hpc : vpc D (va ((nd i).2.1 at2)) = bMn D ((nd i).2.2.2.1 88 ((nd i).2.1 at2)) kk' o := by
              unfold vpc bMn
              rw [v2, e1]
              by_cases z : (nd i).2.2.2.1 88 ((nd i).2.1 at2) = 0
              · rw [if_pos z, if_pos (Or.inr z)]
              · rw [if_neg z, if_neg (by rw [ho]; rintro (y | y); cases y; exact z y)]
            rw [show M3 (mq + 5 + 11) (b0 + j) = M (mq + 5 + 11) (b0 + j) by rw [hfr _ (by omega)]]
            obtain ⟨f, hfd⟩ : ∃ f, f = M (mq + 5 + 11) (b0 + j) := ⟨_, rfl⟩
            rw [← hfd] at goOn g7 x3 ⊢
            refine s_opP (d := d) (c := bMn D ((nd i).2.2.2.1 88 ((nd i).2.1 at2)) kk' o) hs hk h48 (by omega) (by rw [hfr 13 (by omega), hlab.2.1]; exact hpc) ⟨bm1, bm2⟩ (by omega) (fun M4 y1 y2 => ?_)
            have hV3 := vCl_cg (M' := M3) (hfr 11 (by omega)) (hfr 13 (by omega)) (hfr 14 (by omega)) hV
            have hvn := wy_br (D := D) (M := M3) (k := k) (mq := mq) rfl bm1 (by rw [hfr (mq + 5) (by omega)]; exact x3) hnp0 v1 (by rw [hpc]; exact Int.le_refl _) hV3 (by rw [hfr (k + 2) (by omega)]; exact hva) y2
            refine goOn (vaN D va (nd i).2.2.1 ((nd i).2.1 at2)) M4 y1 ?_ hvn h
            rw [ho]
            exact valOK_N gv gt rfl hval hca.1 e1.symm
          · rw [(pk2 c1 c2).2] at ho; cases ho
end CWN
