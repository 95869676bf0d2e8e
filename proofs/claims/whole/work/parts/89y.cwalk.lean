/-! ===== the class: a walk through a tree ===== -/
/-- the class's values are the reference's -/
def vpc (D : xM) (v : Int) : Int := if D 64 v = 0 then 0 else D 61 (6 * D 64 v + D 65 v)
def vCl (M D : xM) : Prop := ∀ v, 0 ≤ v → v < D 59 10 → M 11 v = D 65 v ∧ M 13 v = vpc D v ∧ ∀ j, 0 ≤ j → j < vpc D v → M 14 (v * 3 + j) = D 66 (3 * v + j)
section CWK
variable {D : xM} {d : Nat} {e : yE} {k t : Nat} {M : xM}
theorem vpc_rg (hv : wfVl D) (ht : wfT D) {v : Int} (v0 : 0 ≤ v) (v1 : v < D 59 10) : 0 ≤ vpc D v ∧ vpc D v ≤ 3 := by
  obtain ⟨h1, h2, h3⟩ := hv.2 v v0 v1
  unfold vpc
  by_cases z : D 64 v = 0
  · rw [if_pos z]; omega
  · rw [if_neg z]
    have := (h3 (by omega)).1
    have := (ht.2.2.2 (D 64 v) (D 65 v) h2.1 h2.2 this.1 this.2).1
    omega
theorem s_plN {i x : Int} {Q : Int → xM → Prop} (hs : CSh e) (ht : XSh6 t e) (hi : 0 ≤ i ∧ i < 120) (hx : 0 ≤ x ∧ x < 16) (h : Q (M (t + 12) (i * 16 + x)) M) : C_Tr_placeOfName e (d + 1) t i x M Q :=
  c_Tr_placeOfName (c_Tr_placeOfName_0 hs ht ⟨by omega, h⟩)
theorem s_opP {v f c : Int} {Q : xM → Prop} (hs : CSh e) (hk : XSh8 k e) (h48 : k = 45 ∨ k = 48) (hv : 0 ≤ v ∧ v < 300) (h13 : M 13 v = c) (hc : 0 ≤ c ∧ c ≤ 3) (hf : 0 ≤ f ∧ f + c ≤ 360)
    (h : ∀ M', (∀ j, j ≠ k + 2 → M' j = M j) → (∀ y, M' (k + 2) y = if f ≤ y ∧ y < f + c then M 14 (v * 3 + (y - f)) else M (k + 2) y) → Q M') : C_Wa_openParts e (d + 2) k v f M Q := by
  refine c_Wa_openParts (c_Wa_openParts_0 hs hk ?_)
  have key : ∀ (n : Nat) (x : Nat) (M1 : xM), (x : Int) + n = c → (∀ j, j ≠ k + 2 → M1 j = M j) → (∀ y, M1 (k + 2) y = if f ≤ y ∧ y < f + x then M 14 (v * 3 + (y - f)) else M (k + 2) y) → C_Wa_openParts_2 e (d + 1) k v f x M1 Q := by
    intro n
    induction n with
    | zero =>
      intro x M1 hx k1 k2
      have e13 : M1 13 v = c := by rw [k1 13 (by omega)]; exact h13
      refine c_Wa_openParts_2 hs hk ⟨hv, ⟨⟨by omega, by omega⟩, by rw [e13]; exact ⟨by omega, by omega⟩⟩, fun _ => h M1 k1 (fun y => ?_), fun z => absurd (by rw [e13]; omega) z⟩
      rw [k2 y, show f + (x : Int) = f + c by omega]
    | succ n ih =>
      intro x M1 hx k1 k2
      have e13 : M1 13 v = c := by rw [k1 13 (by omega)]; exact h13
      refine c_Wa_openParts_2 hs hk ⟨hv, ⟨⟨by omega, by omega⟩, by rw [e13]; exact ⟨by omega, by omega⟩⟩, fun z => absurd z (by rw [e13]; omega), fun _ => ?_⟩
      refine c_Tm_partOf (c_Tm_partOf_0 hs (c5_8 hs) ⟨by omega, ⟨by omega, fun M3 e3 => ?_⟩⟩)
      refine ih (x + 1) M3 (by omega) (fun j hj => by rw [e3, xrd hj]; exact k1 j hj) (fun y => ?_)
      by_cases z : y = f + x
      · rw [e3, z, xrs, if_pos (by omega), k1 14 (by omega)]
        congr 1; omega
      · rw [e3, xri z, k2 y]
        by_cases w : f ≤ y ∧ y < f + x
        · rw [if_pos w, if_pos (by omega)]
        · rw [if_neg w, if_neg (by omega)]
  exact key c.toNat 0 M (by omega) (fun _ _ => rfl) (fun y => by rw [if_neg (by omega)])
theorem s_bind {i : Int} {pl : Int → Int} {Q : xM → Prop} (hs : CSh e) (hk : XSh8 k e) (h48 : k = 45 ∨ k = 48) (ht : XSh6 t e) (h99 : 99 < t) (hi : 0 ≤ i ∧ i < 120) (hpl : ∀ x, 0 ≤ x → x < 16 → M (t + 12) (i * 16 + x) = pl x ∧ (pl x = -1 ∨ (0 ≤ pl x ∧ pl x < 360)))
    (h : ∀ M', (∀ j, j ≠ k + 1 → M' j = M j) → (∀ x, 0 ≤ x → x < 16 → M' (k + 1) x = if pl x = -1 then M (k + 1) x else M (k + 2) (pl x)) → Q M') : C_Wa_bind e (d + 2) k t i M Q := by
  refine c_Wa_bind (c_Wa_bind_0 hs hk ht ?_)
  have key : ∀ (n : Nat) (x : Nat) (M1 : xM), x + n = 16 → (∀ j, j ≠ k + 1 → M1 j = M j) → (∀ y : Int, 0 ≤ y → y < 16 → M1 (k + 1) y = if y < x then (if pl y = -1 then M (k + 1) y else M (k + 2) (pl y)) else M (k + 1) y) → C_Wa_bind_2 e (d + 1) k t i x M1 Q := by
    intro n
    induction n with
    | zero =>
      intro x M1 hx k1 k2
      refine c_Wa_bind_2 hs hk ht ⟨⟨by omega, by omega⟩, fun _ => h M1 k1 (fun y y0 y1 => ?_), fun z => absurd (by omega) z⟩
      rw [k2 y y0 y1, if_pos (by omega)]
    | succ n ih =>
      intro x M1 hx k1 k2
      obtain ⟨p1, p2⟩ := hpl x (by omega) (by omega)
      refine c_Wa_bind_2 hs hk ht ⟨⟨by omega, by omega⟩, fun z => absurd z (by omega), fun _ => s_plN hs ht hi (by omega) ?_⟩
      rw [k1 (t + 12) (by omega), p1]
      refine ⟨by rcases p2 with z | z <;> exact ⟨by omega, by omega⟩, fun z => ?_, fun z => ?_⟩
      · refine ih (x + 1) M1 (by omega) k1 (fun y y0 y1 => ?_)
        rw [k2 y y0 y1]
        by_cases w : y = x
        · subst w; rw [if_neg (by omega), if_pos (by omega), if_pos z]
        · by_cases w2 : y < x
          · rw [if_pos w2, if_pos (show y < ((x + 1 : Nat) : Int) by omega)]
          · rw [if_neg w2, if_neg (show ¬ y < ((x + 1 : Nat) : Int) by omega)]
      · refine ⟨by omega, by omega, fun M3 e3 => ?_⟩
        refine ih (x + 1) M3 (by omega) (fun j hj => by rw [e3, xrd hj]; exact k1 j hj) (fun y y0 y1 => ?_)
        by_cases w : y = x
        · subst w; rw [e3, xrs, if_pos (by omega), if_neg z, k1 (k + 2) (by omega)]
        · rw [e3, xri w, k2 y y0 y1]
          by_cases w2 : y < x
          · rw [if_pos w2, if_pos (show y < ((x + 1 : Nat) : Int) by omega)]
          · rw [if_neg w2, if_neg (show ¬ y < ((x + 1 : Nat) : Int) by omega)]
  exact key 16 0 M rfl (fun _ _ => rfl) (fun y y0 _ => by rw [if_neg (by omega)])
/-- the branch that is taken: the first with the label, else the last -/
theorem s_brO {i v : Int} {L : List (Int × Bool)} {b0 hd : Int} {Q : Int → xM → Prop} (hs : CSh e) (hk : XSh8 k e) (ht : XSh6 t e) (hi : 0 ≤ i ∧ i < 120) (hpl : 0 ≤ M (t + 5) i ∧ M (t + 5) i < 360) (hv : M (k + 2) (M (t + 5) i) = v) (hv3 : 0 ≤ v ∧ v < 300) (hh : M 11 v = hd) (hhr : rg hd) (hb : M (t + 7) i = b0) (hn : M (t + 8) i = L.length) (hL : 1 ≤ L.length) (hb0 : 0 ≤ b0 ∧ b0 + L.length ≤ 120) (hlb : ∀ (j : Nat) kk o, L[j]? = some (kk, o) → M (t + 9) (b0 + j) = kk ∧ rg kk ∧ M (t + 10) (b0 + j) = oI o)
    (h : ∀ (j : Nat) kk o, L[j]? = some (kk, o) → (j + 1 = L.length ∨ kk = hd) → (∀ (j' : Nat) kk' o', j' < j → L[j']? = some (kk', o') → kk' ≠ hd) → (o = true → Q (b0 + j) M) ∧ (o = false → C_Wa_openParts e d k v (M (t + 11) (b0 + j)) M (fun M1 => Q (b0 + j) M1))) : C_Wa_branchOf e (d + 1) k t i M Q := by
  refine c_Wa_branchOf (c_Wa_branchOf_0 hs hk ht ⟨hi, hpl, hi, hi, ?_⟩)
  rw [hv, hb, hn]
  have h65 : ∀ (j : Nat) kk o, L[j]? = some (kk, o) → (j + 1 = L.length ∨ kk = hd) → (∀ (j' : Nat) kk' o', j' < j → L[j']? = some (kk', o') → kk' ≠ hd) → C_Wa_branchOf_65 e d k t v (b0 + j) M Q := by
    intro j kk o hj h1 h2
    obtain ⟨a1, a2⟩ := h j kk o hj h1 h2
    have hjl : j < L.length := (List.getElem?_eq_some_iff.mp hj).1
    have ho := (hlb j kk o hj).2.2
    refine c_Wa_branchOf_65 hs hk ht ⟨by omega, ?_⟩
    rw [ho]
    cases o with
    | true => rw [show oI true = 1 from rfl]; exact ⟨⟨by omega, by omega⟩, fun _ => a1 rfl, fun z => absurd (by decide) z⟩
    | false => rw [show oI false = 0 from rfl]; exact ⟨⟨by omega, by omega⟩, fun z => absurd rfl z, fun _ => ⟨by omega, a2 rfl⟩⟩
  have key : ∀ (n j : Nat), j + 1 + n = L.length → (∀ (j' : Nat) kk' o', j' < j → L[j']? = some (kk', o') → kk' ≠ hd) → C_Wa_branchOf_33 e d k t v (b0 + j) (b0 + L.length - 1) M Q := by
    intro n
    induction n with
    | zero =>
      intro j hj hp
      have hjl : j < L.length := by omega
      have hg := List.getElem?_eq_getElem hjl
      refine c_Wa_branchOf_33 hs hk ht ⟨⟨⟨by omega, by omega⟩, ⟨by omega, by omega⟩⟩, fun _ => h65 j _ _ hg (Or.inl (by omega)) hp, fun z => absurd (by omega) z⟩
    | succ n ih =>
      intro j hj hp
      have hjl : j < L.length := by omega
      have hg := List.getElem?_eq_getElem hjl
      obtain ⟨⟨kk, o⟩, ey⟩ : ∃ y, y = L[j] := ⟨_, rfl⟩
      rw [← ey] at hg
      obtain ⟨g1, g2, g3⟩ := hlb j kk o hg
      refine c_Wa_branchOf_33 hs hk ht ⟨⟨⟨by omega, by omega⟩, ⟨by omega, by omega⟩⟩, fun z => absurd z (by omega), fun _ => ⟨by omega, hv3, ?_⟩⟩
      rw [g1, hh]
      refine ⟨⟨g2, hhr⟩, fun z => h65 j kk o hg (Or.inr z) hp, fun z => ?_⟩
      have := ih (j + 1) (by omega) (fun j' kk' o' hj' hg' => ?_)
      · rw [show b0 + (j : Int) + 1 = b0 + ((j + 1 : Nat) : Int) by omega]; exact this
      · by_cases w : j' = j
        · subst w
          rw [hg] at hg'
          obtain ⟨e1, e2⟩ := Prod.mk.inj (Option.some.inj hg')
          rw [← e1]; exact z
        · exact hp j' kk' o' (by omega) hg'
  have := key (L.length - 1) 0 (by omega) (fun j' _ _ hj' => by omega)
  rw [show b0 + ((0 : Nat) : Int) = b0 by omega] at this
  exact this
theorem brs_pick {ty at_ hd : Int} {rows : List aR} {j : Nat} {kk : Int} {o : Bool} (hj : (brs D ty at_ rows)[j]? = some (kk, o)) (h1 : j + 1 = (brs D ty at_ rows).length ∨ kk = hd) (h2 : ∀ (j' : Nat) kk' o', j' < j → (brs D ty at_ rows)[j']? = some (kk', o') → kk' ≠ hd) : (hd ∈ kys D at_ rows [] → kk = hd ∧ o = false) ∧ (hd ∉ kys D at_ rows [] → (ty = 0 ∨ ((kys D at_ rows []).length : Int) < D 60 ty) → kk = lA (kys D at_ rows []) 0 ∧ o = true) := by
  have hno := (lA_is (kys D at_ rows []) 0 (kys_ord rows [] List.Pairwise.nil)).1
  have hmem := List.mem_of_getElem? hj
  have hcase : (kk ∈ kys D at_ rows [] ∧ o = false) ∨ (kk = lA (kys D at_ rows []) 0 ∧ o = true) := by
    unfold brs at hmem
    rcases List.mem_append.mp hmem with z | z
    · obtain ⟨y, hy, e⟩ := List.mem_map.mp z
      obtain ⟨e1, e2⟩ := Prod.mk.inj e
      exact Or.inl ⟨by rw [← e1]; exact hy, e2.symm⟩
    · split at z
      · have e : (kk, o) = (lA (kys D at_ rows []) 0, true) := by simpa using z
        obtain ⟨e1, e2⟩ := Prod.mk.inj e
        exact Or.inr ⟨e1, e2⟩
      · cases z
  refine ⟨fun hm => ?_, fun hm hot => ?_⟩
  · rcases hcase with ⟨c1, c2⟩ | ⟨c1, c2⟩
    · refine ⟨?_, c2⟩
      rcases h1 with h1 | h1
      · have hin : (hd, false) ∈ brs D ty at_ rows := by unfold brs; exact List.mem_append_left _ (List.mem_map.mpr ⟨hd, hm, rfl⟩)
        obtain ⟨j', hj'⟩ := List.getElem?_of_mem hin
        have hl' : j' < (brs D ty at_ rows).length := (List.getElem?_eq_some_iff.mp hj').1
        by_cases w : j' = j
        · subst w; rw [hj] at hj'; exact (Prod.mk.inj (Option.some.inj hj')).1
        · exact absurd rfl (h2 j' hd false (by omega) hj')
      · exact h1
    · rcases h1 with h1 | h1
      · have hin : (hd, false) ∈ brs D ty at_ rows := by unfold brs; exact List.mem_append_left _ (List.mem_map.mpr ⟨hd, hm, rfl⟩)
        obtain ⟨j', hj'⟩ := List.getElem?_of_mem hin
        have hl' : j' < (brs D ty at_ rows).length := (List.getElem?_eq_some_iff.mp hj').1
        by_cases w : j' = j
        · subst w
          rw [hj] at hj'
          obtain ⟨e1, e2⟩ := Prod.mk.inj (Option.some.inj hj')
          exact ⟨e1, e2⟩
        · exact absurd rfl (h2 j' hd false (by omega) hj')
      · rw [h1] at c1; rw [c1] at hm; exact absurd hm hno
  · rcases hcase with ⟨c1, c2⟩ | c
    · rcases h1 with h1 | h1
      · exfalso
        have hl : (brs D ty at_ rows).length = (kys D at_ rows []).length + 1 := by unfold brs; rw [if_pos hot, List.length_append, List.length_map]; rfl
        have hj2 : j = (kys D at_ rows []).length := by omega
        have : (brs D ty at_ rows)[j]? = some (lA (kys D at_ rows []) 0, true) := by
          unfold brs
          rw [if_pos hot, List.getElem?_append_right (by rw [List.length_map]; omega), List.length_map, hj2, Nat.sub_self]; rfl
        rw [hj] at this
        obtain ⟨e1, e2⟩ := Prod.mk.inj (Option.some.inj this)
        rw [e2] at c2; cases c2
      · rw [h1] at c1; exact absurd c1 hm
    · exact c
end CWK
