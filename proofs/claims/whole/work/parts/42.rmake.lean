/-! ===== the reference: make ===== -/
def sm3 (f : Int → Int) (n a b c : Int) : Int := (if 0 < n then f a else 0) + ((if 1 < n then f b else 0) + (if 2 < n then f c else 0))
def ok3 (P : Int → Int → Prop) (n a b c : Int) : Prop := (0 < n → P 0 a) ∧ (1 < n → P 1 b) ∧ (2 < n → P 2 c)
def wr3 (M : xM) (cell : Nat) (base n a b c : Int) : xM :=
  if 2 < n then xup (xup (xup M cell base a) cell (base + 1) b) cell (base + 2) c
  else if 1 < n then xup (xup M cell base a) cell (base + 1) b
  else if 0 < n then xup M cell base a else M
/-- the reference's types are in order -/
def rT (M : xM) : Prop := (1 ≤ M 59 1 ∧ M 59 1 ≤ 8) ∧ (∀ t, 0 ≤ t → t < 8 → 0 ≤ M 60 t ∧ M 60 t ≤ 6) ∧ (∀ t m, 0 ≤ t → t < 8 → 0 ≤ m → m < M 60 t → (0 ≤ M 61 (6 * t + m) ∧ M 61 (6 * t + m) ≤ 3) ∧ ∀ j, 0 ≤ j → j < M 61 (6 * t + m) → 0 ≤ M 62 (3 * (6 * t + m) + j) ∧ M 62 (3 * (6 * t + m) + j) < M 59 1)
/-- the reference's values are in order -/
def rV (M : xM) : Prop := (0 ≤ M 59 10 ∧ M 59 10 ≤ 300) ∧ ∀ v, 0 ≤ v → v < M 59 10 → (0 ≤ M 64 v ∧ M 64 v < 8) ∧ rg (M 65 v) ∧ (1 ≤ M 67 v ∧ M 67 v ≤ 100)
/-- v is a value of the type of the part j of the maker m of the type t -/
def rvOf (M : xM) (t m j v : Int) : Prop := 0 ≤ v ∧ v < M 59 10 ∧ M 64 v = M 62 (3 * (6 * t + m) + j)
section RMK
variable {e : yE} {d : Nat} {M : xM} {x1 x2 x3 x4 x5 x6 x7 : Int}
theorem pk3_0 {a b c : Int} : pk3 0 a b c = a := rfl
theorem pk3_1 {a b c : Int} : pk3 1 a b c = b := rfl
theorem pk3_2 {a b c : Int} : pk3 2 a b c = c := rfl
/-- one turn of the first loop -/
theorem s_make_turn {Q : Int → xM → Prop} (hs : RSh e) (hT : rT M) (hV : rV M) (h1 : 0 ≤ x1 ∧ x1 < M 59 1 ∧ 0 ≤ x2 ∧ x2 < M 60 x1) (hr : rg x3 ∧ rg x4 ∧ rg x5) (h7 : 0 ≤ x7 ∧ x7 ≤ 3) (h6 : 1 ≤ x6 ∧ x6 ≤ 301)
    (hend : M 61 (6 * x1 + x2) ≤ x7 → x6 ≤ 100 → R_addValue e (d + 1) x1 x2 x6 M (fun y4 M3 => R_make_114 e (d + 1) x1 x2 x3 x4 x5 y4 0 M3 Q)) (hbig : M 61 (6 * x1 + x2) ≤ x7 → 100 < x6 → Q (-1) M)
    (hgo : x7 < M 61 (6 * x1 + x2) → rvOf M x1 x2 x7 (pk3 x7 x3 x4 x5) → R_make_32 e (d + 1) x1 x2 x3 x4 x5 (x6 + M 67 (pk3 x7 x3 x4 x5)) (x7 + 1) M Q) (hno : x7 < M 61 (6 * x1 + x2) → ¬ rvOf M x1 x2 x7 (pk3 x7 x3 x4 x5) → Q (-1) M) : R_make_32 e (d + 1) x1 x2 x3 x4 x5 x6 x7 M Q := by
  obtain ⟨hT1, hT2, hT3⟩ := hT
  have ht := hT2 x1 h1.1 (by omega)
  obtain ⟨hn, hp⟩ := hT3 x1 x2 h1.1 (by omega) h1.2.2.1 h1.2.2.2
  have hrp : rg (pk3 x7 x3 x4 x5) := by
    unfold pk3
    split
    · exact hr.1
    · split
      · exact hr.2.1
      · exact hr.2.2
  refine t_make_32 hs (s_countOf hs (by omega) ⟨⟨rgn h7.1 h7.2, rgn hn.1 hn.2⟩, fun c => ⟨rgn (n := 301) (by omega) h6.2, fun c2 => hend c c2, fun c2 => hbig c (by omega)⟩, fun c => ?_⟩)
  refine s_pick (rgn h7.1 h7.2) (s_partType hs (by omega) ?_)
  have hpj := hp x7 h7.1 (by omega)
  refine s_isValueOf hs hrp (rgn (n := 8) hpj.1 (by omega)) hV.1 (fun i h0 h1 => rgn (n := 8) (hV.2 i h0 h1).1.1 (by have := (hV.2 i h0 h1).1.2; omega)) ⟨bI_rg, fun c2 => ?_, fun c2 => ?_⟩
  · have c3 : rvOf M x1 x2 x7 (pk3 x7 x3 x4 x5) := Classical.not_not.mp (fun q => c2 (bI_0.mpr q))
    exact ⟨⟨c3.1, by have := c3.2.1; have := hV.1.2; omega⟩, hgo (by omega) c3⟩
  · have c3 := bI_0.mp (Classical.not_not.mp c2)
    exact hno (by omega) c3
/-- one turn of the second loop -/
theorem s_make_put {Q : Int → xM → Prop} (hs : RSh e) (hT : rT M) (h1 : 0 ≤ x1 ∧ x1 < M 59 1 ∧ 0 ≤ x2 ∧ x2 < M 60 x1) (h6 : 0 ≤ x6 ∧ x6 < 300) (h7 : 0 ≤ x7 ∧ x7 ≤ 3)
    (hend : M 61 (6 * x1 + x2) ≤ x7 → Q x6 M) (hgo : x7 < M 61 (6 * x1 + x2) → R_make_114 e (d + 1) x1 x2 x3 x4 x5 x6 (x7 + 1) (xup M 66 (3 * x6 + x7) (pk3 x7 x3 x4 x5)) Q) : R_make_114 e (d + 1) x1 x2 x3 x4 x5 x6 x7 M Q := by
  obtain ⟨hT1, hT2, hT3⟩ := hT
  have ht := hT2 x1 h1.1 (by omega)
  obtain ⟨hn, hp⟩ := hT3 x1 x2 h1.1 (by omega) h1.2.2.1 h1.2.2.2
  refine t_make_114 hs (s_countOf hs (by omega) ⟨⟨rgn h7.1 h7.2, rgn hn.1 hn.2⟩, fun c => hend c, fun c => ?_⟩)
  exact s_pick (rgn h7.1 h7.2) ⟨by omega, fun M5 e5 => e5 ▸ hgo (by omega)⟩
theorem rT_66 {i v : Int} (hT : rT M) : rT (xup M 66 i v) := by
  unfold rT at hT ⊢
  rw [xrd (show (59 : Nat) ≠ 66 by decide), xrd (show (60 : Nat) ≠ 66 by decide), xrd (show (61 : Nat) ≠ 66 by decide), xrd (show (62 : Nat) ≠ 66 by decide)]
  exact hT
/-- the parts of a value are written -/
theorem s_make_puts {Q : Int → xM → Prop} (hs : RSh e) (hT : rT M) (h1 : 0 ≤ x1 ∧ x1 < M 59 1 ∧ 0 ≤ x2 ∧ x2 < M 60 x1) (h6 : 0 ≤ x6 ∧ x6 < 300) (h : Q x6 (wr3 M 66 (3 * x6) (M 61 (6 * x1 + x2)) x3 x4 x5)) : R_make_114 e (d + 1) x1 x2 x3 x4 x5 x6 0 M Q := by
  have hn : M 61 (6 * x1 + x2) ≤ 3 := (hT.2.2 x1 x2 h1.1 (by have := hT.1.2; omega) h1.2.2.1 h1.2.2.2).1.2
  unfold wr3 at h
  have f : ∀ {M' : xM} {i v : Int} (k : Nat), k ≠ 66 → xup M' 66 i v k = M' k := fun k hk => xrd hk
  refine s_make_put hs hT h1 h6 (by omega) (fun c => ?_) (fun c => ?_)
  · rw [if_neg (by omega), if_neg (by omega), if_neg (by omega)] at h; exact h
  · rw [pk3_0, show 3 * x6 + 0 = 3 * x6 by omega]
    refine s_make_put hs (rT_66 hT) (by rw [f 59 (by decide), f 60 (by decide)]; exact h1) h6 (by omega) (fun c2 => ?_) (fun c2 => ?_)
    · rw [f 61 (by decide)] at c2
      rw [if_neg (by omega), if_neg (by omega), if_pos (by omega)] at h; exact h
    · rw [f 61 (by decide)] at c2
      refine s_make_put hs (rT_66 (rT_66 hT)) (by rw [f 59 (by decide), f 60 (by decide), f 59 (by decide), f 60 (by decide)]; exact h1) h6 (by omega) (fun c3 => ?_) (fun c3 => ?_)
      · rw [f 61 (by decide), f 61 (by decide)] at c3
        rw [if_neg (by omega), if_pos (by omega)] at h; exact h
      · rw [f 61 (by decide), f 61 (by decide)] at c3
        refine s_make_put hs (rT_66 (rT_66 (rT_66 hT))) (by rw [f 59 (by decide), f 60 (by decide), f 59 (by decide), f 60 (by decide), f 59 (by decide), f 60 (by decide)]; exact h1) h6 (by omega) (fun c4 => ?_) (fun c4 => ?_)
        · rw [if_pos (by omega)] at h; exact h
        · rw [f 61 (by decide), f 61 (by decide), f 61 (by decide)] at c4
          omega
end RMK
