/-! ===== the class: the marks are right at every node ===== -/
section CML
variable {D : xM} {t : Nat} {m : Int} {M : xM} {nd : Int → aN} {pi : Int → Int → Int} {hw : Int → Int}
theorem brs_rg {E : xM} {w np at_ : Int} {col : Int → Int} {rows : List aR} {k : Int} {o : Bool} (hwp : wfP D) (hn : wfN D w col np E rows) (hat : 0 ≤ at_ ∧ at_ < w) (hne : ∀ q ∈ rows, ¬ (0 ≤ q.2.1 at_ ∧ D 68 (q.2.1 at_) = 4)) (h : (k, o) ∈ brs D (E 88 (col at_)) at_ rows) : rg k ∧ (o = false → ∃ r ∈ rows, 0 ≤ r.2.1 at_) := by
  obtain ⟨h1, h2, h3⟩ := brs_ok hwp hn hat hne
  unfold brs at h
  rcases List.mem_append.mp h with z | z
  · obtain ⟨y, hy, ee⟩ := List.mem_map.mp z
    obtain ⟨e1, e2⟩ := Prod.mk.inj ee
    refine ⟨by rw [← e1]; exact (h1 y hy).1, fun _ => ?_⟩
    rcases (kys_mem rows []).mp hy with u | ⟨r, hr, hr0, -⟩
    · cases u
    · exact ⟨r, hr, hr0⟩
  · split at z
    · have ee : (k, o) = (lA (kys D at_ rows []) 0, true) := by simpa using z
      obtain ⟨e1, e2⟩ := Prod.mk.inj ee
      exact ⟨by rw [e1]; exact ⟨by omega, by omega⟩, fun y => by rw [e2] at y; cases y⟩
    · cases z
theorem pb_all (hwp : wfP D) (hwt : wfT D) (hwv : wfV D) (hM : wfM D m) (hnds : ∀ i, 0 ≤ i → i < M t 1 → ndC D t M nd pi i ∧ prC D t m M nd pi i) (hr : nd 0 = root D m ∧ pi 0 = fun q => q) (hpa : paI D t m M nd pi hw []) : ∀ (b : Nat) (x : Int) (n : Nat), x ≤ (b : Int) → 0 ≤ x → x < M t 1 → x < (n : Int) → ∃ dp, pbI D t M (nd x) (pi x) (hw x) (mkP t M n x) dp := by
  obtain ⟨h6, hhw, hpar⟩ := hpa
  have root_case : ∀ n : Nat, 0 < n → 0 < M t 1 → ∃ dp, pbI D t M (nd 0) (pi 0) (hw 0) (mkP t M n 0) dp := by
    intro n hn h1
    obtain ⟨n, rfl⟩ : ∃ n', n = n' + 1 := ⟨n - 1, by omega⟩
    have hB : ∀ p, mkP t M (n + 1) 0 p = -1 := fun p => by
      show (if M (t + 6) 0 = -1 then _ else _) = _
      rw [if_pos h6]
    refine ⟨fun _ => 0, fun q q0 q1 => Or.inl ⟨?_, hB _⟩, fun p hp => absurd (hB p) hp, fun q q0 q1 => ⟨⟨Int.le_refl _, by show (0 : Int) ≤ 40; decide⟩, ?_⟩, ?_⟩
    · rw [hr.1]
      show E0 D m 89 q = 0
      unfold E0; rw [if_neg (fun z => absurd z.1 (by decide))]
    · rw [hr.1] at q1 ⊢
      have q1 : q < D 75 m := q1
      have h75 := hM.2.1
      show 0 ≤ E0 D m 88 q ∧ E0 D m 88 q < D 59 1 ∧ 0 < D 63 (E0 D m 88 q)
      unfold E0; rw [if_pos ⟨rfl, q0, by omega⟩]
      exact hM.2.2.2.1 q q0 q1
    · rw [hr.1]
      intro r hr' k k0 k1 hk
      have hr' : r ∈ rtL D m (D 77 m).toNat := hr'
      obtain ⟨i, hi, rfl⟩ := rtL_mem _ hr'
      have k1 : k < D 75 m := k1
      rw [rtR_c k0 k1] at hk ⊢
      have hp := (hM.2.2.2.2 i k (by omega) (by omega) k0 k1).1
      have w1 : D 72 (lF D (rpt D m i k)) ≤ D 72 (rpt D m i k) := lft_w hwp 41 _ hp hk
      have w2 : D 72 (rpt D m i k) ≤ 40 := (hwp.2 _ hp).2.1.2
      show (0 : Int) + _ ≤ 40
      omega
  intro b
  induction b with
  | zero =>
    intro x n hx x0 x1 xn
    have : x = 0 := by omega
    subst this
    exact root_case n (by omega) x1
  | succ b ih =>
    intro x n hx x0 x1 xn
    by_cases hx0 : x = 0
    · subst hx0; exact root_case n (by omega) x1
    · obtain ⟨i, ⟨i0, i1, -⟩, f6, rows, at_, hsh, hcase⟩ := hpar x (by omega) x1
      obtain ⟨n, rfl⟩ : ∃ n', n = n' + 1 := ⟨n - 1, by omega⟩
      obtain ⟨dp, hpb⟩ := ih i n (by omega) i0 (by omega) (by omega)
      obtain ⟨B0, eB0⟩ : ∃ B0, B0 = mkP t M n i := ⟨_, rfl⟩
      rw [← eB0] at hpb
      obtain ⟨P1, P2, P3, P4⟩ := hpb
      obtain ⟨⟨n1, n2, n3, n4⟩, hpr⟩ := hnds i i0 (by omega)
      obtain ⟨hN', hcs⟩ := wfN_shp hwp n1 hsh
      have hdR := dpR_shp (dp := dp) hwp n1 P4 hsh
      obtain ⟨rows2, at2, hsh2, p0, p1⟩ := hpr
      obtain ⟨e1, e2⟩ := Prod.mk.inj (Option.some.inj (hsh2.symm.trans hsh))
      subst e1; subst e2
      have hBx : ∀ p, mkP t M (n + 1) x p = if B0 p ≠ -1 then B0 p else if M (t + 3) i = 0 ∧ p = M (t + 5) i then x else -1 := by
        intro p
        show (if M (t + 6) x = -1 then _ else _) = _
        rw [f6, if_neg (by omega), ← eB0]
      obtain ⟨hwa, hwb⟩ := hhw i i0 (by omega)
      rcases hcase with ⟨hat, j, k, o, hj, hxj, hf1, hf2⟩ | ⟨hat, ⟨r, rs, hrr, hg⟩, hx7, hwx⟩
      · obtain ⟨haw, hrn, hne⟩ : (0 ≤ at2 ∧ at2 < (nd i).1) ∧ rows2 ≠ [] ∧ ∀ q ∈ rows2, ¬ (0 ≤ q.2.1 at2 ∧ D 68 (q.2.1 at2) = 4) := by
          rcases hcs with z | z
          · omega
          · exact z
        obtain ⟨k3, k5, k8, kbr⟩ := p0 hat
        obtain ⟨g1, g2, g3, g4, g5, g6, g7, g8⟩ := kbr j k o hj
        rw [← hxj] at g1 g2 g3 g4 g5 g6 g7 g8
        have hca := hN'.1.2.2.1 at2 haw.1 haw.2
        have hmem := List.mem_of_getElem? hj
        obtain ⟨bk1, bk2⟩ := brs_key hwp hN' haw hne hmem
        obtain ⟨bm1, bm2, bm3⟩ := bMn_nPs (o := o) hwt hca.2.2 bk2
        obtain ⟨kr1, kr2⟩ := brs_rg hwp hN' haw hne hmem
        obtain ⟨f, hfd⟩ : ∃ f, f = M (t + 11) x := ⟨_, rfl⟩
        obtain ⟨c, hcd⟩ : ∃ c, c = (nd i).2.1 at2 := ⟨_, rfl⟩
        obtain ⟨np, hnp⟩ : ∃ np, np = (nd i).2.2.1 := ⟨_, rfl⟩
        obtain ⟨E, hE⟩ : ∃ E, E = (nd i).2.2.2.1 := ⟨_, rfl⟩
        obtain ⟨mm, hmm⟩ : ∃ mm, mm = bMn D (E 88 c) k o := ⟨_, rfl⟩
        have n3' : piO (pi i) np (M t 4) := by rw [hnp]; exact n3
        rw [← hE, ← hcd] at bk1 bk2 bm1 bm2 bm3 g7 g8 hf2
        rw [← hmm] at bm1 bm2 bm3
        rw [← hfd] at g6 g7 g8 hf1 hf2
        rw [← hnp] at g6
        have hnx : nd x = ((nd i).1 - 1 + mm, bCol (nd i).2.1 np at2 mm, np + mm, bEn D E c np mm k o, bRs D np at2 mm k o rows2) := by rw [g3]; unfold chB; rw [← hE, ← hcd, ← hnp, ← hmm]
        have hc0 : 0 ≤ c ∧ c < np := by rw [hcd, hnp]; exact hca.1
        have hwb' : ∀ q, 0 ≤ q → q < np → pi i q < hw i := by rw [hnp]; exact hwb
        have P1' := P1
        rw [← hnp, ← hE] at P1'
        have hBx' : ∀ p, mkP t M (n + 1) x p = if B0 p ≠ -1 then B0 p else if p = pi i c then x else -1 := by
          intro p
          rw [hBx p]
          by_cases z : B0 p ≠ -1
          · rw [if_pos z, if_pos z]
          · rw [if_neg z, if_neg z]
            by_cases y : p = pi i c
            · rw [if_pos ⟨k3, by rw [k5, ← hcd]; exact y⟩, if_pos y]
            · rw [if_neg (fun u => y (by rw [u.2, k5, ← hcd])), if_neg y]
        have hB0c : B0 (pi i c) = -1 := by
          rcases P1' c hc0.1 hc0.2 with z | z
          · exact z.2
          · have h89 : E 89 c = 0 := by rw [hE, hcd]; exact hca.2.1
            have := z.1; omega
        have hBc : mkP t M (n + 1) x (pi i c) = x := by
          rw [hBx', if_neg (by rw [hB0c]; exact fun u => u rfl), if_pos rfl]
        have hBhi : ∀ p, hw i ≤ p → mkP t M (n + 1) x p = -1 := by
          intro p hp
          have z : B0 p = -1 := Classical.byContradiction (fun u => by have := P2 p u; omega)
          have := hwb' c hc0.1 hc0.2
          rw [hBx', if_neg (by rw [z]; exact fun u => u rfl), if_neg (by omega)]
        have hpl : ∀ q, q < np → pi x q = pi i q := fun q hq => by rw [g6]; unfold piN; rw [if_pos hq]
        have hph : ∀ q, np ≤ q → pi x q = f + (q - np) := fun q hq => by rw [g6]; unfold piN; rw [if_neg (by omega)]
        have hdc : 0 ≤ dp c ∧ dp c ≤ 40 := (P3 c hc0.1 (by rw [← hnp]; exact hc0.2)).1
        obtain ⟨dp', hdp'⟩ : ∃ dp' : Int → Int, dp' = fun q => if q < np then dp q else dp c + 1 := ⟨_, rfl⟩
        have dl : ∀ q, q < np → dp' q = dp q := fun q hq => by rw [hdp']; exact if_pos hq
        have dh : ∀ q, np ≤ q → dp' q = dp c + 1 := fun q hq => by rw [hdp']; exact if_neg (by omega)
        rw [hnx]
        refine ⟨dp', fun q q0 q1 => ?_, fun p hp => ?_, fun q q0 q1 => ?_, ?_⟩
        · have q1 : q < np + mm := q1
          show (bEn D E c np mm k o 89 q = 0 ∧ _) ∨ (bEn D E c np mm k o 89 q = 1 ∧ ∃ y, _)
          by_cases z : q < np
          · obtain ⟨b89, b90, b91, b92⟩ := bEn_o (D := D) (E := E) (q := c) (m := mm) (key := k) (i := q) (oth := o) (np := np) (by omega)
            have b88 : bEn D E c np mm k o 88 q = E 88 q := by rw [bEn_88, if_neg (by omega)]
            by_cases y : q = c
            · subst y
              rw [if_pos rfl] at b89 b90 b91 b92
              refine Or.inr ⟨b89, x, by rw [hpl q z]; exact hBc, ⟨x0, x1⟩, ?_⟩
              show M (t + 9) x = bEn D E q np mm k o 90 q ∧ (0 ≤ M (t + 11) x ∧ M (t + 11) x + nPs D (bEn D E q np mm k o 88 q) (bEn D E q np mm k o 90 q) ≤ M t 4) ∧ (bEn D E q np mm k o 91 q = 0 ∨ bEn D E q np mm k o 91 q = 1) ∧ ((bEn D E q np mm k o 88 q ≠ 0 → 0 ≤ bEn D E q np mm k o 90 q ∧ bEn D E q np mm k o 90 q < D 60 (bEn D E q np mm k o 88 q)) ∧ rg (bEn D E q np mm k o 90 q)) ∧ (bEn D E q np mm k o 91 q = 0 → ∀ k', 0 ≤ k' → k' < nPs D (bEn D E q np mm k o 88 q) (bEn D E q np mm k o 90 q) → (0 ≤ bEn D E q np mm k o 92 q + k' ∧ bEn D E q np mm k o 92 q + k' < np + mm) ∧ M (t + 11) x + k' = pi x (bEn D E q np mm k o 92 q + k') ∧ dp' (bEn D E q np mm k o 92 q + k') = dp' q + 1) ∧ (bEn D E q np mm k o 91 q = 1 → ∀ k', 0 ≤ k' → k' < nPs D (bEn D E q np mm k o 88 q) (bEn D E q np mm k o 90 q) → mkP t M (n + 1) x (M (t + 11) x + k') = -1 ∧ M (t + 2) (M (t + 11) x + k') = D 62 (3 * (6 * bEn D E q np mm k o 88 q + bEn D E q np mm k o 90 q) + k') ∧ M (t + 11) x + k' < hw x ∧ ∀ q', 0 ≤ q' → q' < np + mm → pi x q' ≠ M (t + 11) x + k')
              rw [b88, b90, b91, b92, ← hfd]
              refine ⟨g4, g7, ?_, ⟨bk2, kr1⟩, fun ho k' k0' k1' => ?_, fun ho k' k0' k1' => ?_⟩
              · cases o with
                | true => exact Or.inr rfl
                | false => exact Or.inl rfl
              · have ho : o = false := by
                  cases o with
                  | true => exact absurd ho (by decide)
                  | false => rfl
                have hnm : nPs D (E 88 q) k = mm := by
                  rw [hmm, ho]; unfold nPs bMn
                  by_cases u : E 88 q = 0
                  · rw [if_pos u, if_pos (Or.inr u)]
                  · rw [if_neg u, if_neg (by rintro (v | v); cases v; exact u v)]
                refine ⟨by omega, ?_, ?_⟩
                · rw [hph _ (by omega)]; omega
                · rw [dh _ (by omega), dl q z]
              · have ho : o = true := by
                  cases o with
                  | false => exact absurd ho (by decide)
                  | true => rfl
                have hm0 : mm = 0 := by rw [hmm, ho]; unfold bMn; rw [if_pos (Or.inl rfl)]
                refine ⟨hBhi _ (by omega), g8 k' k0' k1', by omega, fun q' q0' q1' => ?_⟩
                rw [hpl q' (by omega)]
                have := hwb' q' q0' (by omega)
                omega
            · rw [if_neg y] at b89 b90 b91 b92
              have hne' : pi i q ≠ pi i c := fun u => y (n3'.2 q c q0 z hc0.1 hc0.2 u)
              rcases P1' q q0 z with ⟨u1, u2⟩ | ⟨u1, y', u2, u3, u4, u5, u6, u7, u8, u9⟩
              · refine Or.inl ⟨by rw [b89]; exact u1, ?_⟩
                rw [hpl q z, hBx', if_neg (by rw [u2]; exact fun v => v rfl), if_neg hne']
              · refine Or.inr ⟨by rw [b89]; exact u1, y', by rw [hpl q z, hBx', if_pos (by rw [u2]; omega)]; exact u2, u3, ?_⟩
                show M (t + 9) y' = bEn D E c np mm k o 90 q ∧ (0 ≤ M (t + 11) y' ∧ M (t + 11) y' + nPs D (bEn D E c np mm k o 88 q) (bEn D E c np mm k o 90 q) ≤ M t 4) ∧ (bEn D E c np mm k o 91 q = 0 ∨ bEn D E c np mm k o 91 q = 1) ∧ ((bEn D E c np mm k o 88 q ≠ 0 → 0 ≤ bEn D E c np mm k o 90 q ∧ bEn D E c np mm k o 90 q < D 60 (bEn D E c np mm k o 88 q)) ∧ rg (bEn D E c np mm k o 90 q)) ∧ (bEn D E c np mm k o 91 q = 0 → ∀ k', 0 ≤ k' → k' < nPs D (bEn D E c np mm k o 88 q) (bEn D E c np mm k o 90 q) → (0 ≤ bEn D E c np mm k o 92 q + k' ∧ bEn D E c np mm k o 92 q + k' < np + mm) ∧ M (t + 11) y' + k' = pi x (bEn D E c np mm k o 92 q + k') ∧ dp' (bEn D E c np mm k o 92 q + k') = dp' q + 1) ∧ (bEn D E c np mm k o 91 q = 1 → ∀ k', 0 ≤ k' → k' < nPs D (bEn D E c np mm k o 88 q) (bEn D E c np mm k o 90 q) → mkP t M (n + 1) x (M (t + 11) y' + k') = -1 ∧ M (t + 2) (M (t + 11) y' + k') = D 62 (3 * (6 * bEn D E c np mm k o 88 q + bEn D E c np mm k o 90 q) + k') ∧ M (t + 11) y' + k' < hw x ∧ ∀ q', 0 ≤ q' → q' < np + mm → pi x q' ≠ M (t + 11) y' + k')
                rw [b88, b90, b91, b92]
                refine ⟨u4, u5, u6, u7, fun ho k' k0' k1' => ?_, fun ho k' k0' k1' => ?_⟩
                · obtain ⟨v1, v2, v3⟩ := u8 ho k' k0' k1'
                  exact ⟨by omega, by rw [hpl _ v1.2]; exact v2, by rw [dl _ v1.2, dl q z]; exact v3⟩
                · obtain ⟨v1, v2, v3, v4⟩ := u9 ho k' k0' k1'
                  have v5 := v4 c hc0.1 hc0.2
                  refine ⟨?_, v2, by omega, fun q' q0' q1' => ?_⟩
                  · rw [hBx', if_neg (by rw [v1]; exact fun v => v rfl), if_neg (fun v => v5 v.symm)]
                  · by_cases w : q' < np
                    · rw [hpl q' w]; exact v4 q' q0' w
                    · rw [hph q' (by omega)]; omega
          · refine Or.inl ⟨bEn_n (by omega), ?_⟩
            rw [hph q (by omega)]
            exact hBhi _ (by omega)
        · rw [hBx'] at hp
          by_cases z : B0 p ≠ -1
          · have := P2 p z; omega
          · rw [if_neg z] at hp
            by_cases y : p = pi i c
            · have := hwb' c hc0.1 hc0.2; omega
            · rw [if_neg y] at hp; exact absurd rfl hp
        · have q1 : q < np + mm := q1
          refine ⟨?_, ?_⟩
          rotate_left
          · show 0 ≤ bEn D E c np mm k o 88 q ∧ bEn D E c np mm k o 88 q < D 59 1 ∧ 0 < D 63 (bEn D E c np mm k o 88 q)
            rw [bEn_88]
            by_cases z : q < np
            · rw [if_neg (by omega), hE]; exact (P3 q q0 (by rw [← hnp]; exact z)).2
            · rw [if_pos (by omega)]
              have hmp : 0 < mm := by omega
              have hty : E 88 c ≠ 0 := fun u => by
                have : mm = 0 := by (rw [hmm]; unfold bMn; rw [if_pos (Or.inr u)])
                omega
              have hty2 : 0 ≤ E 88 c ∧ E 88 c < D 59 1 := by rw [hE, hcd]; exact hca.2.2
              have hmD : mm ≤ D 61 (6 * E 88 c + k) := by
                have : nPs D (E 88 c) k = D 61 (6 * E 88 c + k) := by unfold nPs; rw [if_neg hty]
                omega
              have hk2 := bk2 hty
              have hh := (hwt.2.2.2 (E 88 c) k hty2.1 hty2.2 hk2.1 hk2.2).2 (q - np) (by omega) (by omega)
              exact ⟨hh.1, hh.2, hwv.2.2 (E 88 c) k (q - np) hty2.1 hty2.2 hk2.1 hk2.2 (by omega) (by omega)⟩
          by_cases z : q < np
          · rw [dl q z]; exact (P3 q q0 (by rw [← hnp]; exact z)).1
          · have hof : o = false := by
              cases ho : o with
              | false => rfl
              | true => have : mm = 0 := by (rw [hmm, ho]; unfold bMn; rw [if_pos (Or.inl rfl)])
                        omega
            obtain ⟨r, hr', hr0⟩ := kr2 hof
            have h40 := hdR r hr' at2 haw.1 haw.2 hr0
            rw [← hcd] at h40
            have hw1 := (hwp.2 _ (okT_P (hN'.2.1 r hr').1 haw.1 haw.2 hr0)).2.1
            rw [dh q (by omega)]; omega
        · exact dpR_chB (E := (nd i).2.2.2.1) (np := np) hwp hwt (by rw [hnp]; exact hN') hdR haw hne (by rw [hmm, hE, hcd]) ⟨bm1, bm2⟩ (fun q _ hq => dl q hq) (fun j' j0 j1 => by rw [dh _ (by omega), hcd])
      · subst hrr
        obtain ⟨f3, f4, f5, f6'⟩ := (p1 hat).2 r rs rfl
        obtain ⟨k3, g8, g7, g6, gnd, gpi⟩ := f6' hg
        rw [← hx7] at g7 g6 gnd gpi
        have hBx' : ∀ p, mkP t M (n + 1) x p = B0 p := by
          intro p
          rw [hBx p]
          by_cases z : B0 p ≠ -1
          · rw [if_pos z]
          · rw [if_neg z, if_neg (fun u => by have := u.1; omega)]
            exact (Classical.not_not.mp z).symm
        have hfun : mkP t M (n + 1) x = B0 := funext hBx'
        rw [hfun, gnd, gpi]
        refine ⟨dp, fun q q0 q1 => ?_, fun p hp => by have := P2 p hp; omega, P3, fun r' hr' => hdR r' (List.mem_cons_of_mem _ hr')⟩
        rcases P1 q q0 q1 with u | ⟨u1, y', u2, u3, u4, u5, u6, u7, u8, u9⟩
        · exact Or.inl u
        · refine Or.inr ⟨u1, y', u2, u3, u4, u5, u6, u7, u8, fun ho k' k0' k1' => ?_⟩
          obtain ⟨v1, v2, v3, v4⟩ := u9 ho k' k0' k1'
          exact ⟨v1, v2, by omega, v4⟩
end CML
