/-! ===== a pattern more: names, and all together ===== -/
section PAU
variable {e : yE} {d : Nat} {M M0 M1 M2 : xM} {kd t h w b ei n kind own : Int} {a : Int → Int}
theorem pGr_B (hr : rOK M) (hx : rfX M) (hg : pGr M M2 kd t h w b ei n a) (ht1 : 0 ≤ t ∧ t < M 59 1) (hn : pNw M kd t h n kind own a) (hpt : ∀ j, 0 ≤ j → j < n → isP M (a j)) (hb : b = orS (M 73) a own n.toNat) (hei : ei = fkS (M 74) a (if kind = 5 then 1 else 0) n.toNat) : wfB M2 ∧ wfE M2 := by
  obtain ⟨n3, hwo, hwb, hbo, hbb⟩ := pNw_bits hr hx ht1 hn hpt hb
  obtain ⟨⟨gp, gt, gv, gb, ge⟩, -⟩ := hr
  obtain ⟨hc, hP2, h74⟩ := pGr_cng hg gp
  obtain ⟨g1, ⟨g2, g2'⟩, ⟨g3, g4, g5, g6, g7, g8⟩, g9, g10, g11⟩ := hg
  have e61 : M2 61 = M 61 := g1 61 (by decide) (by omega)
  obtain ⟨P, eP⟩ : ∃ P, P = M 59 18 := ⟨_, rfl⟩
  rw [← eP] at g3 g4 g5 g7 g8 g10 hP2
  have epc : pct M2 P = M 61 (6 * t + h) := by unfold pct; rw [e61, g4, g5]
  have ep : ∀ j, 0 ≤ j → j < n → prt M2 P j = a j := fun j j0 j1 => g10 j j0 j1
  have opc : ∀ p, isP M p → pct M2 p = pct M p := fun p hq => by unfold pct; rw [e61, ((hc 0).2.1 p hq).2.1, ((hc 0).2.1 p hq).2.2.1]
  have op : ∀ p, isP M p → ∀ j, 0 ≤ j → j < 3 → prt M2 p j = prt M p j := fun p hq j j0 j1 => ((hc 0).2.1 p hq).2.2.2.2.2 j j0 j1
  have nP : ∀ x, 0 ≤ x → x < 16 → (nmb M2 P x ↔ ((kd = 0 ∨ kd = 3) ∧ h = x) ∨ ∃ j, 0 ≤ j ∧ j < n ∧ nmb M (a j) x) := fun x x0 x1 => by
    rw [← hbb x x0 x1]; unfold nmb; rw [g7]
  have nj : ∀ j x, 0 ≤ j → j < n → (nmb M2 (prt M2 P j) x ↔ nmb M (a j) x) := fun j x j0 j1 => by
    rw [ep j j0 j1]; exact nmb_c (hc 0) (hpt j j0 j1)
  refine ⟨fun p hp x x0 x1 => ?_, fun p hp hE => ?_⟩
  · rcases (hP2 p).mp hp with hq | hq
    · obtain ⟨c1, c2, c3, c4, c5, c6⟩ := (hc 0).2.1 p hq
      obtain ⟨b1, b2, b3, b4, b5⟩ := gb p hq x x0 x1
      obtain ⟨w1, w2, w3, w4, w5, w6, w7, w8, w9⟩ := gp.2 p hq
      rw [c1, c3, nmb_c (hc 0) hq, opc p hq]
      refine ⟨b1, b2, fun z => ?_, fun z => ?_, fun z => ?_⟩
      · have hpc := pct_rg gp gt hq z
        have u3 := (w7 z).2.2.1
        have nq : ∀ j, 0 ≤ j → j < pct M p → (nmb M2 (prt M2 p j) x ↔ nmb M (prt M p j) x) := fun j j0 j1 => by
          rw [op p hq j j0 (by omega)]; exact nmb_c (hc 0) (u3 j j0 j1).1
        obtain ⟨y1, y2⟩ := b3 z
        refine ⟨?_, fun i j i0 ij j1 => ?_⟩
        · rw [y1]
          constructor
          · rintro ⟨j, j0, j1, y⟩; exact ⟨j, j0, j1, (nq j j0 j1).mpr y⟩
          · rintro ⟨j, j0, j1, y⟩; exact ⟨j, j0, j1, (nq j j0 j1).mp y⟩
        · rw [nq i i0 (by omega), nq j (by omega) j1]; exact y2 i j i0 ij j1
      · rw [op p hq 0 (by omega) (by omega), nmb_c (hc 0) (w8 z).2.1]; exact b4 z
      · have u1 := (w9 z).1
        rw [op p hq 0 (by omega) (by omega), op p hq 1 (by omega) (by omega), nmb_c (hc 0) (u1 0 (by omega) (by omega)).1, nmb_c (hc 0) (u1 1 (by omega) (by omega)).1]; exact b5 z
    · rw [hq, g3, g5, epc, nP x x0 x1]
      rcases hn with ⟨k1, k2, k3, k4⟩ | ⟨k1, k2, k3, k4, k5⟩ | ⟨k1, k2, k3, k4, k5, k6, k7, k8⟩ | ⟨k1, k2, k3, k4, k5, k6, k7⟩ | ⟨k1, k2, k3, k4, k5, k6, k7⟩
      · refine ⟨fun _ => ⟨?_, fun u => Or.inl ⟨Or.inl k1, u⟩⟩, fun z => by omega, fun z => by omega, fun z => by omega, fun z => by omega⟩
        rintro (y | ⟨j, j0, j1, -⟩)
        · exact y.2
        · omega
      · refine ⟨fun z => by omega, fun _ => ?_, fun z => by omega, fun z => by omega, fun z => by omega⟩
        rintro (y | ⟨j, j0, j1, -⟩) <;> omega
      · refine ⟨fun z => by omega, fun z => by omega, fun _ => ⟨?_, fun i j i0 ij j1 => ?_⟩, fun z => by omega, fun z => by omega⟩
        · constructor
          · rintro (y | ⟨j, j0, j1, y⟩)
            · omega
            · exact ⟨j, j0, by omega, (nj j x j0 j1).mpr y⟩
          · rintro ⟨j, j0, j1, y⟩; exact Or.inr ⟨j, j0, by omega, (nj j x j0 (by omega)).mp y⟩
        · rw [nj i x i0 (by omega), nj j x (by omega) (by omega)]; exact k8 x i j x0 x1 i0 ij (by omega)
      · refine ⟨fun z => by omega, fun z => by omega, fun z => by omega, fun _ => ?_, fun z => by omega⟩
        rw [nj 0 x (by omega) (by omega)]
        refine ⟨⟨?_, ?_⟩, fun u => k7 (by rw [u.1]; exact u.2)⟩
        · rintro (y | ⟨j, j0, j1, y⟩)
          · exact Or.inl y.2
          · rw [show j = 0 by omega] at y; exact Or.inr y
        · rintro (y | y)
          · exact Or.inl ⟨Or.inr k1, y⟩
          · exact Or.inr ⟨0, by omega, by omega, y⟩
      · refine ⟨fun z => by omega, fun z => by omega, fun z => by omega, fun z => by omega, fun _ => ?_⟩
        have e01 : nmb M (a 1) x ↔ nmb M (a 0) x := by unfold nmb; rw [k7]
        rw [nj 0 x (by omega) (by omega), nj 1 x (by omega) (by omega), e01]
        have : (((kd = 0 ∨ kd = 3) ∧ h = x) ∨ ∃ j, 0 ≤ j ∧ j < n ∧ nmb M (a j) x) ↔ nmb M (a 0) x := by
          constructor
          · rintro (y | ⟨j, j0, j1, y⟩)
            · omega
            · have : j = 0 ∨ j = 1 := by omega
              rcases this with z | z
              · rw [z] at y; exact y
              · rw [z] at y; exact e01.mp y
          · intro y; exact Or.inr ⟨0, by omega, by omega, y⟩
        exact ⟨this, this⟩
  · unfold noE at hE ⊢
    rcases (hP2 p).mp hp with hq | hq
    · obtain ⟨c1, c2, c3, c4, c5, c6⟩ := (hc 0).2.1 p hq
      obtain ⟨w1, w2, w3, w4, w5, w6, w7, w8, w9⟩ := gp.2 p hq
      rw [h74 p hq] at hE
      obtain ⟨y1, y2, y3⟩ := ge p hq hE
      rw [c1, opc p hq]
      refine ⟨y1, fun z j j0 j1 => ?_, fun z => ?_⟩
      · have hpc := pct_rg gp gt hq z
        rw [op p hq j j0 (by omega), h74 _ ((w7 z).2.2.1 j j0 j1).1]; exact y2 z j j0 j1
      · rw [op p hq 0 (by omega) (by omega), h74 _ (w8 z).2.1]; exact y3 z
    · rw [hq, g8, hei] at hE
      obtain ⟨f1, f2⟩ := fkS_i _ hE
      have h5 : kind ≠ 5 := fun u => by rw [if_pos u] at f1; omega
      rw [hq, g3, epc]
      have f3 : ∀ j, 0 ≤ j → j < n → M2 74 (prt M2 P j) = 0 := fun j j0 j1 => by
        rw [ep j j0 j1, h74 _ (hpt j j0 j1)]; exact f2 j j0 (by omega)
      rcases hn with ⟨k1, k2, k3, k4⟩ | ⟨k1, k2, k3, k4, k5⟩ | ⟨k1, k2, k3, k4, k5, k6, k7, k8⟩ | ⟨k1, k2, k3, k4, k5, k6, k7⟩ | ⟨k1, k2, k3, k4, k5, k6, k7⟩
      · exact ⟨by omega, fun z => by omega, fun z => by omega⟩
      · exact ⟨by omega, fun z => by omega, fun z => by omega⟩
      · exact ⟨by omega, fun z j j0 j1 => f3 j j0 (by omega), fun z => by omega⟩
      · exact ⟨by omega, fun z => by omega, fun z => f3 0 (by omega) (by omega)⟩
      · exact absurd k3 h5
/-- the types of its names -/
theorem pGr_N {F : Int → Int} (hr : rOK M) (hx : rfX M) (hg : pGr M M2 kd t h w b ei n a) (hw2 : wfP M2) (ht2 : wfT M2) (hb2 : wfB M2) (hP : M 59 18 < 300) (ht1 : 0 ≤ t ∧ t < M 59 1) (hn : pNw M kd t h n kind own a) (hpt : ∀ j, 0 ≤ j → j < n → isP M (a j)) (hb : b = orS (M 73) a own n.toNat) (hei : ei = fkS (M 74) a (if kind = 5 then 1 else 0) n.toNat)
    (hF : ∀ p, isP M p → (0 ≤ F p ∧ F p < 65536) ∧ (M 74 p = 0 → ∀ a, 0 ≤ a → a < 16 → (xand32 (xshr32 (F p) a) 1 = 1 ↔ nmb M p a ∧ tyN M 41 p a = 0))) : (0 ≤ orS F a (if t = 0 then own else 0) n.toNat ∧ orS F a (if t = 0 then own else 0) n.toNat < 65536) ∧ (ei = 0 → ∀ x, 0 ≤ x → x < 16 → (xand32 (xshr32 (orS F a (if t = 0 then own else 0) n.toNat) x) 1 = 1 ↔ nmb M2 (M 59 18) x ∧ tyN M2 41 (M 59 18) x = 0)) := by
  obtain ⟨n3, hwo, hwb, hbo, hbb⟩ := pNw_bits hr hx ht1 hn hpt hb
  obtain ⟨⟨gp, gt, gv, gb, ge⟩, -⟩ := hr
  obtain ⟨hc, hP2, h74⟩ := pGr_cng hg gp
  obtain ⟨g1, ⟨g2, g2'⟩, ⟨g3, g4, g5, g6, g7, g8⟩, g9, g10, g11⟩ := hg
  have e61 : M2 61 = M 61 := g1 61 (by decide) (by omega)
  have P0 := gp.1
  obtain ⟨P, eP⟩ : ∃ P, P = M 59 18 := ⟨_, rfl⟩
  rw [← eP] at g3 g4 g5 g7 g8 g10 hP2 ⊢
  have epc : pct M2 P = M 61 (6 * t + h) := by unfold pct; rw [e61, g4, g5]
  have ep : ∀ j, 0 ≤ j → j < n → prt M2 P j = a j := fun j j0 j1 => g10 j j0 j1
  have hown : nmW (if t = 0 then own else 0) := by
    by_cases z : t = 0
    · rw [if_pos z]; exact hwo
    · rw [if_neg z]; exact ⟨by decide, by decide⟩
  obtain ⟨o1, o2⟩ := orS_w (f := F) (a := a) hown n.toNat (fun j j0 j1 => (hF (a j) (hpt j j0 (by omega))).1)
  refine ⟨o1, fun he x x0 x1 => ?_⟩
  rw [hei] at he
  obtain ⟨f1, f2⟩ := fkS_i _ he
  have h5 : kind ≠ 5 := fun u => by rw [if_pos u] at f1; omega
  have hj : ∀ j, 0 ≤ j → j < n → (xand32 (xshr32 (F (a j)) x) 1 = 1 ↔ nmb M (a j) x ∧ tyN M2 41 (a j) x = 0) := fun j j0 j1 => by
    rw [(hF (a j) (hpt j j0 j1)).2 (f2 j j0 (by omega)) x x0 x1, tyN_c gp gt (hc 0) 41 (a j) x (hpt j j0 j1)]
  have nP : nmb M2 P x ↔ ((kd = 0 ∨ kd = 3) ∧ h = x) ∨ ∃ j, 0 ≤ j ∧ j < n ∧ nmb M (a j) x := by
    rw [← hbb x x0 x1]; unfold nmb; rw [g7]
  have ho : xand32 (xshr32 (if t = 0 then own else 0) x) 1 = 1 ↔ ((kd = 0 ∨ kd = 3) ∧ h = x) ∧ t = 0 := by
    by_cases z : t = 0
    · rw [if_pos z, hbo x x0 x1]; exact ⟨fun u => ⟨u, z⟩, fun u => u.1⟩
    · rw [if_neg z]; exact ⟨fun u => absurd u (bit_0 x0 x1), fun u => absurd u.2 z⟩
  have isPP : isP M2 P := (hP2 P).mpr (Or.inr rfl)
  rw [o2 x x0 x1, ho, nP]
  rcases hn with ⟨k1, k2, k3, k4⟩ | ⟨k1, k2, k3, k4, k5⟩ | ⟨k1, k2, k3, k4, k5, k6, k7, k8⟩ | ⟨k1, k2, k3, k4, k5, k6, k7⟩ | ⟨k1, k2, k3, k4, k5, k6, k7⟩
  · have et : tyN M2 41 P x = if h = x then t else -1 := by
      show (if M2 68 P = 0 then (if M2 70 P = x then M2 69 P else -1) else _) = _
      rw [g3, if_pos k1, g4, g5]
    rw [et]
    constructor
    · rintro (y | ⟨j, j0, j1, -⟩)
      · rw [if_pos y.1.2]; exact ⟨Or.inl y.1, y.2⟩
      · omega
    · rintro ⟨y | ⟨j, j0, j1, -⟩, y2⟩
      · rw [if_pos y.2] at y2; exact Or.inl ⟨y, y2⟩
      · omega
  · constructor
    · rintro (y | ⟨j, j0, j1, -⟩) <;> omega
    · rintro ⟨y | ⟨j, j0, j1, -⟩, -⟩ <;> omega
  · have et : ∀ j, 0 ≤ j → j < n → nmb M (a j) x → tyN M2 41 P x = tyN M2 41 (a j) x := fun j j0 j1 hnj => by
      rw [tyN_2 hw2 ht2 hb2 isPP (by rw [g3]; exact k1) x0 x1 j0 (by rw [epc]; omega) (by rw [ep j j0 j1]; exact (nmb_c (hc 0) (hpt j j0 j1)).mpr hnj), ep j j0 j1]
    constructor
    · rintro (y | ⟨j, j0, j1, y⟩)
      · omega
      · obtain ⟨y1, y2⟩ := (hj j j0 (by omega)).mp y
        exact ⟨Or.inr ⟨j, j0, by omega, y1⟩, by rw [et j j0 (by omega) y1]; exact y2⟩
    · rintro ⟨y | ⟨j, j0, j1, y⟩, y2⟩
      · omega
      · rw [et j j0 j1 y] at y2
        exact Or.inr ⟨j, j0, by omega, (hj j j0 j1).mpr ⟨y, y2⟩⟩
  · have i0 : isP M2 (a 0) := (hP2 _).mpr (Or.inl (hpt 0 (by omega) (by omega)))
    have et : tyN M2 41 P x = if h = x then t else tyN M2 41 (a 0) x := by
      have hw40 := (hw2.2 _ isPP).2.1.2
      have hs := ((hw2.2 _ isPP).2.2.2.2.2.2.2.1 (by rw [g3]; exact k1)).2.2.2.2
      rw [ep 0 (by omega) (by omega)] at hs
      rw [tyN_fuel hw2 ht2 41 40 (a 0) x i0 (by omega) (by omega)]
      show (if M2 68 P = 0 then _ else if M2 68 P = 1 then -1 else if M2 68 P = 3 then (if M2 70 P = x then M2 69 P else tyN M2 40 (prt M2 P 0) x) else _) = _
      rw [g3, if_neg (by omega), if_neg (by omega), if_pos k1, g4, g5, ep 0 (by omega) (by omega)]
    rw [et]
    constructor
    · rintro (y | ⟨j, j0, j1, y⟩)
      · rw [if_pos y.1.2]; exact ⟨Or.inl y.1, y.2⟩
      · have jz : j = 0 := by omega
        rw [jz] at y
        obtain ⟨y1, y2⟩ := (hj 0 (by omega) (by omega)).mp y
        rw [if_neg (fun u => k7 (by rw [u]; exact y1))]
        exact ⟨Or.inr ⟨0, by omega, by omega, y1⟩, y2⟩
    · rintro ⟨y | ⟨j, j0, j1, y⟩, y2⟩
      · rw [if_pos y.2] at y2; exact Or.inl ⟨y, y2⟩
      · have jz : j = 0 := by omega
        rw [jz] at y
        rw [if_neg (fun u => k7 (by rw [u]; exact y))] at y2
        exact Or.inr ⟨0, by omega, by omega, (hj 0 (by omega) (by omega)).mpr ⟨y, y2⟩⟩
  · exact absurd k3 h5
end PAU
