/-! ===== the class: spell, its loop ===== -/
section CSM
variable {D : xM} {e : yE} {d : Nat} {m : Int} {mq q1 : Nat}
theorem s_sp40 {M0 : xM} {a : aN} {π B dp : Int → Int} {hi : Int} {T : List Int} {Q : Int → xM → Prop} (hs : CSh e) (hq : XSh3 mq e) (h99 : 99 < mq) (hwt : wfT D) (hwv : wfV D) (hY : tCl M0 D) (hpm : M0 7 0 = 0 ∧ ∀ t, 0 < t → t < D 59 1 → 0 < D 63 t → M0 7 t = pMk D t) (hpb : pbI D (mq + 5) M0 a π hi B dp) (hB : ∀ p, 0 ≤ p → p < 360 → M0 56 p = B p) (hpi : ∀ q, 0 ≤ q → q < a.2.2.1 → 0 ≤ π q ∧ π q < 360) (hty : ∀ q, 0 ≤ q → q < a.2.2.1 → M0 (mq + 5 + 2) (π q) = a.2.2.2.1 88 q) (h4 : M0 (mq + 5) 4 ≤ 360) (h1 : M0 (mq + 5) 1 ≤ 120) (hq1 : q1 = 54 ∨ q1 = 55) (h53 : M0 53 2 = (q1 : Int))
    (hQ : ∀ M' n', (∀ j, j ≠ 57 → j ≠ q1 → M' j = M0 j) → ((n' = (T.length : Int) ∧ n' ≤ 4000 ∧ (∀ (j : Nat) x, T[j]? = some x → M' q1 j = x) ∧ ∀ x ∈ T, rg x) ∨ (n' = 4001 ∧ 4000 < T.length)) → Q n' M') :
    ∀ (N : Nat) (st : List (Int × Int × List Int)) (M1 : xM) (dn : List Int), (txt st).length ≤ N → dn ++ txt st = T → dn.length ≤ 4001 → stk (itm D (mq + 5) M0 a π dp) (M1 57) st → (∀ j, j ≠ 57 → j ≠ q1 → M1 j = M0 j) → (∀ (j : Nat) x, dn[j]? = some x → j < 4000 → M1 q1 j = x) → (∀ x ∈ dn, rg x) → C_Te_spell_40 e (d + 3) mq st.length dn.length M1 Q := by
  have h8 := hwt.1
  have hyA : yA e q1 1 4000 := by rcases hq1 with z | z <;> subst z; exact caa_54 hs; exact caa_55 hs
  intro N
  induction N with
  | zero =>
    intro st M1 dn hN hT hdn hst hf hd hdr
    cases st with
    | nil =>
      have hT' : dn = T := by rw [← hT]; show dn = dn ++ []; rw [List.append_nil]
      refine c_Te_spell_40 hs hq ⟨by rw [List.length_nil]; exact ⟨by omega, by omega⟩, fun _ => hQ M1 _ hf ?_, fun z => absurd (by show (0 : Int) ≤ 0; decide) z⟩
      by_cases z : dn.length ≤ 4000
      · exact Or.inl ⟨by rw [hT'], by omega, fun j x hj => hd j x (by rw [hT']; exact hj) (by
          have : j < dn.length := by rw [hT']; exact (List.getElem?_eq_some_iff.mp hj).1
          omega), by rw [← hT']; exact hdr⟩
      · exact Or.inr ⟨by omega, by rw [← hT']; omega⟩
    | cons x st =>
      exfalso
      obtain ⟨-, hx, -, -⟩ := hst
      have hne : x.2.2 ≠ [] := by
        rcases hx with ⟨tt, n, t1, l1, r1, -⟩ | ⟨q, n, qq, -, u1, l1, r1, -⟩
        · obtain ⟨n, rfl⟩ : ∃ n', n = n' + 1 := ⟨n - 1, by omega⟩
          rw [l1]; unfold ptx; split <;> exact List.cons_ne_nil _ _
        · have := (hpb.2.2.1 q qq.1 qq.2).1
          obtain ⟨n, rfl⟩ : ∃ n', n = n' + 1 := ⟨n - 1, by omega⟩
          rw [l1]; unfold tx; rw [if_neg (by omega)]; exact List.cons_ne_nil _ _
      have : (x.2.2 ++ txt st).length ≤ 0 := hN
      rw [List.length_append] at this
      have := List.length_pos_iff.mpr hne
      omega
  | succ N ih =>
    intro st M1 dn hN hT hdn hst hf hd hdr
    cases st with
    | nil =>
      have hT' : dn = T := by rw [← hT]; show dn = dn ++ []; rw [List.append_nil]
      refine c_Te_spell_40 hs hq ⟨by rw [List.length_nil]; exact ⟨by omega, by omega⟩, fun _ => hQ M1 _ hf ?_, fun z => absurd (by show (0 : Int) ≤ 0; decide) z⟩
      by_cases z : dn.length ≤ 4000
      · exact Or.inl ⟨by rw [hT'], by omega, fun j x hj => hd j x (by rw [hT']; exact hj) (by
          have : j < dn.length := by rw [hT']; exact (List.getElem?_eq_some_iff.mp hj).1
          omega), by rw [← hT']; exact hdr⟩
      · exact Or.inr ⟨by omega, by rw [← hT']; omega⟩
    | cons x st =>
      obtain ⟨hA, hx, hL, hst'⟩ := hst
      obtain ⟨it, lev, l⟩ := x
      have hA : M1 57 st.length = it := hA
      have hL : (st.length : Int) + 1 ≤ 2 * lev + 3 ∧ lev ≤ 50 := hL
      have hTl : T.length = dn.length + (l ++ txt st).length := by rw [← hT, List.length_append]; rfl
      -- what comes after the label is known
      have step : ∀ (ty x7 lab : Int) (f : Int → List Int), (0 ≤ ty ∧ ty < D 59 1) → (ty ≠ 0 → 0 ≤ lab ∧ lab < D 60 ty) → rg lab → (x7 = -1 ∨ (0 ≤ x7 ∧ x7 < 120)) → l = lab :: flS f (nPs D ty lab).toNat 0 → (∀ k : Int, 0 ≤ k → k < nPs D ty lab → ∃ c lv, (lev + 1 ≤ lv ∧ lv ≤ 50) ∧ itm D (mq + 5) M0 a π dp c lv (f k) ∧ (x7 ≠ -1 → M0 (mq + 16) x7 + k = c) ∧ (x7 = -1 → xxor32 (D 62 (3 * (6 * ty + lab) + k)) (-1) = c)) → dn.length ≤ 4000 → C_Te_spell_128 e (d + 3) mq st.length dn.length ty x7 lab M1 Q := by
        intro ty x7 lab f ty1 lab1 lrg h7 hl hch hdn4
        have hnp : 0 ≤ nPs D ty lab ∧ nPs D ty lab ≤ 3 := by
          unfold nPs
          by_cases z : ty = 0
          · rw [if_pos z]; omega
          · rw [if_neg z]; have := lab1 z; have := (hwt.2.2.2 ty lab ty1.1 ty1.2 this.1 this.2).1; omega
        -- the memory after the label
        have go : ∀ M2, (∀ j, j ≠ q1 → M2 j = M1 j) → (∀ (j : Nat) x, (dn ++ [lab])[j]? = some x → j < 4000 → M2 q1 j = x) → C_Te_spell_147 e (d + 3) mq st.length dn.length ty x7 lab M2 Q := by
          intro M2 f2 d2
          have f20 : ∀ j, j ≠ 57 → j ≠ q1 → M2 j = M0 j := fun j y1 y2 => by rw [f2 j y2, hf j y1 y2]
          have hY2 : tCl M2 D := tCl_cg (f20 2 (by decide) (by omega)) (f20 3 (by decide) (by omega)) (f20 4 (by decide) (by omega)) (f20 5 (by decide) (by omega)) hY
          have h57 : M2 57 = M1 57 := f2 57 (by omega)
          refine c_Te_spell_147 hs hq (s_partsOf (d := d) hs hwt hY2 ty1 lrg lab1 ?_)
          have := s_push (d := d + 2) (mq := mq) (M0 := M2) (It := itm D (mq + 5) M0 a π dp) (x4 := (dn.length : Int) + 1) (ty := ty) (x7 := x7) (lab := lab) (L := lev) (st0 := st) (f := f) (p := (nPs D ty lab).toNat) (Q := Q) (q1 := q1) hs hq h99 (by omega) hL h7 (by omega) (fun k k0 k1 => ?_) (fun cur M' hcur htx hfr => ?_) (nPs D ty lab).toNat st M2 (Nat.le_refl _) (by omega) (by rw [Nat.sub_self]; rfl) (by rw [h57]; exact hst') (fun _ _ => rfl)
          · rw [show (((nPs D ty lab).toNat : Nat) : Int) - 1 = nPs D ty lab - 1 by omega] at this
            exact this
          · obtain ⟨c, lv, c1, c2, c3, c4⟩ := hch k k0 (by omega)
            refine ⟨c, lv, c1, c2, fun z => by rw [f20 (mq + 16) (by omega) (by omega)]; exact c3 z, fun z => ?_⟩
            have tz : ty ≠ 0 := fun u => by
              have : nPs D ty lab = 0 := by unfold nPs; rw [if_pos u]
              omega
            have lz := lab1 tz
            have h6 := hwt.2.1 ty ty1.1 (by omega)
            have e61 : nPs D ty lab = D 61 (6 * ty + lab) := by unfold nPs; rw [if_neg tz]
            refine ⟨by omega, ?_⟩
            rw [(hY2.2.2 ty lab ty1.1 ty1.2 lz.1 lz.2).2 k k0 (by omega)]
            exact c4 z
          · have hTT : (dn ++ [lab]) ++ txt cur = T := by
              rw [htx, ← hT]
              show _ = dn ++ (l ++ txt st)
              rw [hl]; simp
            have hlen : (txt cur).length ≤ N := by
              have : (l ++ txt st).length ≤ N + 1 := hN
              rw [hl] at this
              rw [htx]
              simp only [List.length_append, List.length_cons] at this ⊢
              omega
            have := ih cur M' (dn ++ [lab]) hlen hTT (by rw [List.length_append, List.length_singleton]; omega) hcur (fun j y1 y2 => by rw [hfr j y1]; exact f20 j y1 y2) (fun j x hj j4 => by rw [hfr q1 (by omega)]; exact d2 j x hj j4) (fun x hx => by
              rcases List.mem_append.mp hx with z | z
              · exact hdr x z
              · have : x = lab := by simpa using z
                rw [this]; exact lrg)
            rw [List.length_append, List.length_singleton] at this
            exact this
        refine c_Te_spell_128 hs hq ⟨⟨by omega, by omega⟩, fun z => go M1 (fun _ _ => rfl) (fun j x hj j4 => ?_), fun z => ⟨q1, 4000, ⟨by rw [hf 53 (by decide) (by omega)]; exact h53, hyA⟩, by omega, fun M2 e2 => go M2 (fun j hj => by rw [e2, xrd hj]) (fun j x hj j4 => ?_)⟩⟩
        · rw [List.getElem?_append_left (by omega)] at hj; exact hd j x hj j4
        · by_cases w : j < dn.length
          · rw [List.getElem?_append_left w] at hj
            rw [e2, xri (by omega)]; exact hd j x hj j4
          · have hj2 : j = dn.length := by
              have := (List.getElem?_eq_some_iff.mp hj).1
              rw [List.length_append, List.length_singleton] at this
              omega
            subst hj2
            rw [List.getElem?_append_right (Nat.le_refl _), Nat.sub_self] at hj
            have : lab = x := by simpa using hj
            rw [e2, xrs, this]
      have hsl : (((it, lev, l) :: st).length : Int) + -1 = st.length := by rw [List.length_cons]; omega
      refine c_Te_spell_40 hs hq ⟨by rw [List.length_cons]; exact ⟨by omega, by omega⟩, fun z => absurd z (by rw [List.length_cons]; omega), fun _ => ⟨⟨by omega, by omega⟩, fun z => hQ M1 _ hf (Or.inr ⟨by omega, by omega⟩), fun z4 => ⟨by rw [hsl]; omega, ?_⟩⟩⟩
      rw [hsl, hA]
      have hdn4 : dn.length ≤ 4000 := by omega
      have g56 : M1 56 = M0 56 := hf 56 (by decide) (by omega)
      have g7 : M1 7 = M0 7 := hf 7 (by decide) (by omega)
      have gt2 : M1 (mq + 7) = M0 (mq + 7) := hf (mq + 7) (by omega) (by omega)
      have g14 : M1 (mq + 14) = M0 (mq + 14) := hf (mq + 14) (by omega) (by omega)
      rcases hx with ⟨tt, n, t1, l1, r1, n9, lv1, hit⟩ | ⟨q, n, qq, hit, u1, l1, r1, lv1⟩
      · -- a plain value
        have l1 : l = ptx D n tt := l1
        have lv1 : lev = 50 - n := lv1
        have plain : C_Te_spell_100 e (d + 3) mq st.length dn.length tt (-1) M1 Q := by
          refine c_Te_spell_100 hs hq ⟨⟨by omega, by omega⟩, fun z => absurd rfl z, fun _ => ⟨by omega, ?_⟩⟩
          rw [g7]
          obtain ⟨n, rfl⟩ : ∃ n', n = n' + 1 := ⟨n - 1, by omega⟩
          by_cases z : tt = 0
          · have e7 : M0 7 tt = 0 := by rw [z]; exact hpm.1
            rw [e7]
            have hn0 : nPs D tt 0 = 0 := by unfold nPs; rw [if_pos z]
            refine step tt (-1) 0 (fun _ => []) ⟨t1.1, t1.2.1⟩ (fun w => absurd z w) ⟨by omega, by omega⟩ (Or.inl rfl) ?_ (fun k k0 k1 => by omega) hdn4
            rw [l1, hn0]; unfold ptx; rw [if_pos z]; rfl
          · rw [hpm.2 tt (by omega) t1.2.1 t1.2.2]
            obtain ⟨p1, -, -⟩ := pMk_is hwt hwv (t := tt) (by omega) t1.2.1 t1.2.2
            have h6 := hwt.2.1 tt t1.1 (by omega)
            have hnp : nPs D tt (pMk D tt) = D 61 (6 * tt + pMk D tt) := by unfold nPs; rw [if_neg z]
            refine step tt (-1) (pMk D tt) (fun k => ptx D n (D 62 (3 * (6 * tt + pMk D tt) + k))) ⟨t1.1, t1.2.1⟩ (fun _ => p1) ⟨by omega, by omega⟩ (Or.inl rfl) ?_ (fun k k0 k1 => ?_) hdn4
            · rw [l1, hnp]; show (if tt = 0 then _ else _) = _; rw [if_neg z]
            · rw [hnp] at k1
              obtain ⟨-, b2⟩ := pMk_pt hwt hwv (t := tt) (by omega) t1.2.1 t1.2.2
              obtain ⟨b3, -⟩ := b2 k k0 k1
              have b4 := pMk_rk hwt hwv (t := tt) (by omega) t1.2.1 t1.2.2 k0 k1
              refine ⟨-(D 62 (3 * (6 * tt + pMk D tt) + k)) - 1, 50 - n, by omega, Or.inl ⟨_, n, ⟨b3.1, b3.2, hwv.2.2 tt (pMk D tt) k t1.1 t1.2.1 p1.1 p1.2 k0 k1⟩, rfl, by omega, by omega, rfl, Or.inl ⟨by omega, rfl⟩⟩, fun w => absurd rfl w, fun _ => xx_nn b3.1 (by omega)⟩
        rcases hit with ⟨i0, i1⟩ | ⟨i0, i1, i2⟩
        · have i1 : it = -tt - 1 := i1
          have i0 : it < 0 := i0
          have hxx : xxor32 it (-1) = tt := by rw [i1]; exact xx_ng t1.1 (by omega)
          refine ⟨⟨by omega, by omega⟩, fun z => absurd z (by omega), fun _ => c_Te_spell_82 hs hq ⟨⟨by omega, by omega⟩, fun z => absurd z (by omega), fun _ => ?_⟩⟩
          rw [hxx]; exact plain
        · have i0 : 0 ≤ it ∧ it < 360 := i0
          have i1 : M0 56 it = -1 := i1
          have i2 : M0 (mq + 7) it = tt := i2
          refine ⟨⟨by omega, by omega⟩, fun _ => ⟨i0, c_Te_spell_82 hs hq ⟨⟨by omega, by omega⟩, fun _ => ⟨i0, ?_⟩, fun z => absurd i0.1 z⟩⟩, fun z => absurd i0.1 z⟩
          rw [gt2, i2, g56, i1]; exact plain
      · -- a place of which something is known
        have hit : it = π q := hit
        have l1 : l = tx D a.2.2.2.1 n q := l1
        have lv1 : lev = dp q := lv1
        obtain ⟨dq1, dq2⟩ := hpb.2.2.1 q qq.1 qq.2
        have hpq := hpi q qq.1 qq.2
        obtain ⟨n, rfl⟩ : ∃ n', n = n' + 1 := ⟨n - 1, by omega⟩
        rcases hpb.1 q qq.1 qq.2 with ⟨v1, -⟩ | ⟨-, y, v2, v3, v4, v5, v6, ⟨v7, v7'⟩, v8, v9⟩
        · omega
        · have e56 : M1 56 (π q) = y := by rw [g56, hB _ hpq.1 hpq.2]; exact v2
          have ety : M1 (mq + 7) (π q) = a.2.2.2.1 88 q := by rw [gt2]; exact hty q qq.1 qq.2
          have e9 : M1 (mq + 14) y = a.2.2.2.1 90 q := by rw [g14]; exact v4
          rw [hit]
          refine ⟨⟨by omega, by omega⟩, fun _ => ⟨hpq, c_Te_spell_82 hs hq ⟨⟨by omega, by omega⟩, fun _ => ⟨hpq, ?_⟩, fun z => absurd hpq.1 z⟩⟩, fun z => absurd hpq.1 z⟩
          rw [ety, e56]
          refine c_Te_spell_100 hs hq ⟨⟨by omega, by omega⟩, fun _ => ⟨by omega, ?_⟩, fun z => absurd (by omega) z⟩
          rw [e9]
          refine step (a.2.2.2.1 88 q) y (a.2.2.2.1 90 q) (fun k => if a.2.2.2.1 91 q = 0 then tx D a.2.2.2.1 n (a.2.2.2.1 92 q + k) else ptx D 9 (D 62 (3 * (6 * a.2.2.2.1 88 q + a.2.2.2.1 90 q) + k))) ⟨dq2.1, dq2.2.1⟩ v7 v7' (Or.inr ⟨by omega, by omega⟩) ?_ (fun k k0 k1 => ?_) hdn4
          · rw [l1]
            show (if a.2.2.2.1 89 q = 0 then _ else _) = _
            rw [if_neg (by omega)]
            by_cases z : a.2.2.2.1 88 q = 0
            · have hn0 : nPs D (a.2.2.2.1 88 q) (a.2.2.2.1 90 q) = 0 := by unfold nPs; rw [if_pos z]
              rw [if_pos (by omega), hn0]; rfl
            · have hn0 : nPs D (a.2.2.2.1 88 q) (a.2.2.2.1 90 q) = D 61 (6 * a.2.2.2.1 88 q + a.2.2.2.1 90 q) := by unfold nPs; rw [if_neg z]
              rw [if_neg (by omega), hn0]
          · rcases v6 with z | z
            · obtain ⟨w1, w2, w3⟩ := v8 z k k0 k1
              obtain ⟨lv, lv2, lv3⟩ := it_place (n := n) hpb hB hpi hty w1.1 w1.2 (by omega)
              refine ⟨π (a.2.2.2.1 92 q + k), lv, by omega, ?_, fun _ => w2, fun u => by omega⟩
              rw [if_pos z]; exact lv3
            · obtain ⟨w1, w2, w3, -⟩ := v9 z k k0 k1
              have hh : 0 ≤ M0 (mq + 5 + 11) y + k ∧ M0 (mq + 5 + 11) y + k < 360 := by omega
              have tz : a.2.2.2.1 88 q ≠ 0 := fun u => by
                have : nPs D (a.2.2.2.1 88 q) (a.2.2.2.1 90 q) = 0 := by unfold nPs; rw [if_pos u]
                omega
              have e61 : nPs D (a.2.2.2.1 88 q) (a.2.2.2.1 90 q) = D 61 (6 * a.2.2.2.1 88 q + a.2.2.2.1 90 q) := by unfold nPs; rw [if_neg tz]
              have rg62 := (hwt.2.2.2 _ _ dq2.1 dq2.2.1 (v7 tz).1 (v7 tz).2).2 k k0 (by omega)
              refine ⟨M0 (mq + 5 + 11) y + k, 41, by omega, Or.inl ⟨_, 9, ⟨rg62.1, rg62.2, hwv.2.2 _ _ k dq2.1 dq2.2.1 (v7 tz).1 (v7 tz).2 k0 (by omega)⟩, ?_, rk9, by decide, by decide, Or.inr ⟨hh, by rw [hB _ hh.1 hh.2]; exact w1, w2⟩⟩, fun _ => rfl, fun u => by omega⟩
              rw [if_neg (by omega)]
end CSM
