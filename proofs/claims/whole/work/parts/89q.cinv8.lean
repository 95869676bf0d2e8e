/-! ===== the class: a test keeps the invariant ===== -/
section CJD
variable {D E : xM} {w np at_ ty : Int} {col : Int → Int}
theorem brs_key {rows : List aR} {k : Int} {o : Bool} (hw : wfP D) (hn : wfN D w col np E rows) (hat : 0 ≤ at_ ∧ at_ < w) (hne : ∀ q ∈ rows, ¬ (0 ≤ q.2.1 at_ ∧ D 68 (q.2.1 at_) = 4)) (h : (k, o) ∈ brs D (E 88 (col at_)) at_ rows) : okK D (E 88 (col at_)) k o ∧ (E 88 (col at_) ≠ 0 → 0 ≤ k ∧ k < D 60 (E 88 (col at_))) := by
  obtain ⟨h1, -, h3⟩ := brs_ok hw hn hat hne
  have hty := (hn.1.2.2.1 at_ hat.1 hat.2).2.2.1
  unfold brs at h
  rcases List.mem_append.mp h with h | h
  · obtain ⟨k', hk, e⟩ := List.mem_map.mp h
    obtain ⟨e1, e2⟩ := Prod.mk.inj e
    subst e1; subst e2
    obtain ⟨-, a, b⟩ := h1 k' hk
    exact ⟨a, fun z => b (by omega)⟩
  · split at h
    · rename_i hc
      have e : (k, o) = (lA (kys D at_ rows []) 0, true) := by simpa using h
      obtain ⟨e1, e2⟩ := Prod.mk.inj e
      subst e1; subst e2
      exact ⟨fun z => (by cases z), fun z => ⟨h3.1, by rcases hc with y | y; (exact absurd y z); (omega)⟩⟩
    · cases h
theorem bMn_nPs {k : Int} {o : Bool} (ht : wfT D) (h1 : 0 ≤ ty ∧ ty < D 59 1) (hk : ty ≠ 0 → 0 ≤ k ∧ k < D 60 ty) : 0 ≤ bMn D ty k o ∧ bMn D ty k o ≤ 3 ∧ bMn D ty k o ≤ nPs D ty k := by
  unfold bMn nPs
  by_cases z : ty = 0
  · rw [if_pos (Or.inr z), if_pos z]; omega
  · rw [if_neg z]
    have := (ht.2.2.2 ty k h1.1 h1.2 (hk z).1 (hk z).2).1
    cases o with
    | true => rw [if_pos (Or.inl rfl)]; omega
    | false => rw [if_neg (fun y => by rcases y with y | y; (cases y); (exact z y))]; omega
theorem bEn_88 {q m key i : Int} {oth : Bool} : bEn D E q np m key oth 88 i = if np ≤ i ∧ i < np + m then D 62 (3 * (6 * E 88 q + key) + (i - np)) else E 88 i := by
  unfold bEn
  by_cases z : np ≤ i ∧ i < np + m
  · rw [if_pos ⟨rfl, z⟩, if_pos z]
  · rw [if_neg (fun y => z y.2), if_neg z, if_neg (fun y => absurd y.1 (by decide)), if_neg (fun y => absurd y.2 (by decide)), if_neg (fun y => absurd y.2 (by decide)), if_neg (fun y => absurd y.2 (by decide)), if_neg (fun y => absurd y.2 (by decide))]
theorem rng_at {x : Int} : ∀ (n j : Nat), j < n → (rng x n)[j]? = some (x + j) := by
  intro n j h
  have hl := rng_len (x := x) n
  have e := List.getElem?_eq_getElem (l := rng x n) (i := j) (by omega)
  obtain ⟨-, h2⟩ := rng_get n j _ e
  rw [e, h2]
theorem rng_map {α β : Type} {B : Int} {L : List α} {g : α → β} {f : Int → β} (hf : ∀ (j : Nat) y, L[j]? = some y → f (B + j) = g y) : (rng B L.length).map f = L.map g := by
  refine List.ext_getElem? (fun j => ?_)
  rw [List.getElem?_map, List.getElem?_map]
  by_cases z : j < L.length
  · rw [rng_at _ j z]
    have e := List.getElem?_eq_getElem z
    rw [e]
    show some (f (B + j)) = some (g L[j])
    rw [hf j _ e]
  · rw [List.getElem?_eq_none (by rw [rng_len]; omega), List.getElem?_eq_none (by omega)]; rfl
end CJD
section CJE
variable {D : xM} {t : Nat} {m i at_ : Int} {M M1 M' : xM} {nd : Int → aN} {pi : Int → Int → Int}
theorem kpO_ts {w np ty : Int} {π col : Int → Int} {rows : List aR} {ws : List Int} {n : Nat} {e e' : yE} {cs cl cs' cl' : Nat} (h99 : 99 < t) (ht : XSh6 t e) (s1 : ∀ j, t ≤ j → j ≤ t + 12 → M1 j = M j) (hk : tsN D t π w col np ty at_ rows i n ws e M1 cs cl e' M' cs' cl') : kpO t M M' (fun x => x ≠ i) := by
  obtain ⟨-, r1, -, ⟨r2, r3, r4, r5⟩, -, q3, q5, q2, q6, q7, q8, q9, -⟩ := hk
  have s0 := s1 t (by omega) (by omega)
  have s2 := s1 (t + 2) (by omega) (by omega)
  have s3 := s1 (t + 3) (by omega) (by omega)
  have s4 := s1 (t + 4) (by omega) (by omega)
  have s5 := s1 (t + 5) (by omega) (by omega)
  have s6 := s1 (t + 6) (by omega) (by omega)
  have s7 := s1 (t + 7) (by omega) (by omega)
  have s8 := s1 (t + 8) (by omega) (by omega)
  have s9 := s1 (t + 9) (by omega) (by omega)
  have sa := s1 (t + 10) (by omega) (by omega)
  have sb := s1 (t + 11) (by omega) (by omega)
  have sc := s1 (t + 12) (by omega) (by omega)
  rw [s0] at r3 r4 r5 q2 q6 q9
  have l12 : t + 12 < e.1 := ht.2.1
  have l4 : t + 4 < e.1 := by omega
  have z4 := r1 (t + 4) l4 (by omega) (by omega) (by omega) (by omega) (by omega) (by omega) (by omega) (by omega) (by omega) (by omega) (nC_a (a6_4 ht) (by decide))
  have z12 := r1 (t + 12) l12 (by omega) (by omega) (by omega) (by omega) (by omega) (by omega) (by omega) (by omega) (by omega) (by omega) (nC_a (a6_12 ht) (by decide))
  refine ⟨fun x hx => ⟨by rw [q3 x, if_neg hx, s3], by rw [z4, s4], by rw [q5 x, if_neg hx, s5], by rw [q7 x, if_neg hx, s7], by rw [q8 x, if_neg hx, s8], fun y _ _ => by rw [z12, sc]⟩, fun x hx => ?_, fun x hx => by rw [q2 x hx, s2], by rw [r3]; omega, r4⟩
  obtain ⟨c1, c2, c3, -⟩ := q9 x (fun z => by omega)
  exact ⟨by rw [q6 x, if_neg (fun z => by omega), s6], by rw [c1, s9], by rw [c2, sa], by rw [c3, sb]⟩
theorem ndC_br {w np : Int} {col : Int → Int} {E : xM} {π : Int → Int} {rows : List aR} {k f : Int} {o : Bool} (hw : wfP D) (ht : wfT D) (hb : wfB D) (hn : wfN D w col np E rows) (hU : ∀ r ∈ rows, nmU D w r) (hat : 0 ≤ at_ ∧ at_ < w) (hne : ∀ q ∈ rows, ¬ (0 ≤ q.2.1 at_ ∧ D 68 (q.2.1 at_) = 4)) (hk : (k, o) ∈ brs D (E 88 (col at_)) at_ rows) (hp : piO π np (M t 4)) (h40 : 0 ≤ M t 4) (hE : ∀ q, 0 ≤ q → q < np → M (t + 2) (π q) = E 88 q) (h2 : ∀ x, x < M t 4 → M' (t + 2) x = M (t + 2) x) (hf : M t 4 ≤ f) (hf2 : f + nPs D (E 88 (col at_)) k ≤ M' t 4) (hty : ∀ j, 0 ≤ j → j < nPs D (E 88 (col at_)) k → M' (t + 2) (f + j) = D 62 (3 * (6 * E 88 (col at_) + k) + j)) (hx : nd i = chB D w col np E at_ rows k o) (hpx : pi i = piN π np f) : ndC D t M' nd pi i := by
  obtain ⟨k1, k2⟩ := brs_key hw hn hat hne hk
  have ht1 := (hn.1.2.2.1 at_ hat.1 hat.2).2.2
  obtain ⟨b1, b2, b3⟩ := bMn_nPs (o := o) ht ht1 k2
  have hw' := wfN_chB (key := k) (oth := o) hw ht hn hat hne k1 rfl
  have hu' := chB_U hw ht hb hn hU hat hne k1 ⟨b1, b2⟩
  have hp' := piN_O hp hf h40 b1
  have hnp := hn.1.2.1
  unfold ndC
  rw [hx, hpx]
  refine ⟨hw', hu', ⟨fun q q0 q1 => ⟨(hp'.1 q q0 q1).1, ?_⟩, hp'.2⟩, fun q q0 q1 => ?_⟩
  · have := (hp'.1 q q0 q1).2; omega
  · have q1 : q < np + bMn D (E 88 (col at_)) k o := q1
    show M' (t + 2) (piN π np f q) = bEn D E (col at_) np (bMn D (E 88 (col at_)) k o) k o 88 q
    rw [bEn_88]
    unfold piN
    by_cases z : q < np
    · rw [if_pos z, if_neg (fun y => by omega), h2 _ (hp.1 q q0 z).2]; exact hE q q0 z
    · rw [if_neg z, if_pos ⟨by omega, q1⟩]; exact hty (q - np) (by omega) (by omega)
end CJE
