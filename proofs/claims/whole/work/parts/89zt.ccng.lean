/-! ===== a tree that stands, when more comes ===== -/
section CCN
variable {D D' : xM} {t : Nat} {m : Int} {M : xM} {nd : Int → aN} {pi : Int → Int → Int}
theorem isP_c {p : Int} (h : cng D D' m) (hp : isP D p) : isP D' p := ⟨hp.1, Int.lt_of_lt_of_le hp.2 h.1⟩
theorem nmb_c {p a : Int} (h : cng D D' m) (hp : isP D p) : nmb D' p a ↔ nmb D p a := by unfold nmb; rw [(h.2.1 p hp).2.2.2.2.1]
theorem wfN_c {w np : Int} {col : Int → Int} {E : xM} {rows : List aR} (h : cng D D' m) (hn : wfN D w col np E rows) : wfN D' w col np E rows := by
  obtain ⟨⟨c1, c2, c3, c4⟩, o, l⟩ := hn
  have h1 := h.2.2.1.2.2.2.2
  refine ⟨⟨c1, c2, fun k k0 k1 => ⟨(c3 k k0 k1).1, (c3 k k0 k1).2.1, (c3 k k0 k1).2.2.1, by have := (c3 k k0 k1).2.2.2; omega⟩, c4⟩, fun r hr => ⟨fun k k0 k1 => ?_, (o r hr).2⟩, l⟩
  rcases (o r hr).1 k k0 k1 with z | ⟨z1, z2, z3, z4⟩
  · exact Or.inl z
  · obtain ⟨g1, g2, -⟩ := h.2.1 _ z1
    exact Or.inr ⟨isP_c h z1, by rw [g1]; exact z2, by rw [g1]; exact z3, by rw [g2]; exact z4⟩
theorem nmU_c {w np : Int} {col : Int → Int} {E : xM} {r : aR} (h : cng D D' m) (ho : okT D w col E r) (hu : nmU D w r) : nmU D' w r := by
  intro a a0 a1
  obtain ⟨u1, u2⟩ := hu a a0 a1
  exact ⟨fun k k0 k1 hk hb => u1 k k0 k1 hk ((nmb_c h (okT_P ho k0 k1 hk)).mp hb), fun j k j0 j1 k0 k1 hjk hj hk hb => u2 j k j0 j1 k0 k1 hjk hj hk ⟨(nmb_c h (okT_P ho j0 j1 hj)).mp hb.1, (nmb_c h (okT_P ho k0 k1 hk)).mp hb.2⟩⟩
theorem brs_c {w np at_ ty : Int} {col : Int → Int} {E : xM} {rows : List aR} (h : cng D D' m) (hn : wfN D w col np E rows) (hat : 0 ≤ at_ ∧ at_ < w) : brs D' ty at_ rows = brs D ty at_ rows := by
  unfold brs
  rw [kys_c h hat rows [] (fun q hq => (hn.2.1 q hq).1), h.2.2.1.1]
theorem nPs_c {ty k : Int} (h : cng D D' m) : nPs D' ty k = nPs D ty k := by unfold nPs; rw [h.2.2.1.2.1]
theorem stT_c {evs : List aV} (hw : wfP D) (ht : wfT D) (hM : wfM D m) (h : cng D D' m) (hs : stT D t m M nd pi evs) : stT D' t m M nd pi evs := by
  obtain ⟨a1, a2, a3, a4, a5, a6, a7, hw0, b1, b2, b3⟩ := hs
  have key : ∀ i, 0 ≤ i → i < M t 1 → ∀ rows at_, shp D (nd i).1 (nd i).2.1 (nd i).2.2.2.2 = some (rows, at_) → shp D' (nd i).1 (nd i).2.1 (nd i).2.2.2.2 = some (rows, at_) ∧ wfN D (nd i).1 (nd i).2.1 (nd i).2.2.1 (nd i).2.2.2.1 rows ∧ (0 ≤ at_ → (0 ≤ at_ ∧ at_ < (nd i).1) ∧ (∀ q ∈ rows, ¬ (0 ≤ q.2.1 at_ ∧ D 68 (q.2.1 at_) = 4)) ∧ brs D' ((nd i).2.2.2.1 88 ((nd i).2.1 at_)) at_ rows = brs D ((nd i).2.2.2.1 88 ((nd i).2.1 at_)) at_ rows) := by
    intro i i0 i1 rows at_ hsh
    obtain ⟨n1, -⟩ := (a3 i i0 i1).1
    obtain ⟨hN', hcs⟩ := wfN_shp hw n1 hsh
    refine ⟨by rw [shp_c (E := (nd i).2.2.2.1) hw h n1.1.1 (fun q hq => (n1.2.1 q hq).1) n1.2.2]; exact hsh, hN', fun hat => ?_⟩
    rcases hcs with z | z
    · omega
    · exact ⟨z.1, z.2.2, brs_c h hN' z.1⟩
  have h79 : ∀ r : Int, 0 ≤ r → r < 12 → D' 79 (12 * m + r) = D 79 (12 * m + r) := fun r r0 r1 => (h.2.2.2.1 r r0 r1).1
  refine ⟨by rw [fin_cg hw ht hM h]; exact a1, a2, fun i i0 i1 => ⟨?_, ?_⟩, by rw [root_c hw hM h]; exact a4, a5, a6, a7, hw0, b1, b2, fun x x0 x1 => ?_⟩
  · obtain ⟨n1, n2, n3, n4⟩ := (a3 i i0 i1).1
    exact ⟨wfN_c h n1, fun r hr => nmU_c (np := 0) h (n1.2.1 r hr).1 (n2 r hr), n3, n4⟩
  · obtain ⟨rows, at_, hsh, p0, p1⟩ := (a3 i i0 i1).2
    obtain ⟨k1, k2, k3⟩ := key i i0 i1 rows at_ hsh
    refine ⟨rows, at_, k1, fun hat => ?_, fun hat => ⟨(p1 hat).1, fun r rs hr => ?_⟩⟩
    · obtain ⟨haw, hne, hbr⟩ := k3 hat
      obtain ⟨q1, q2, q3, q4⟩ := p0 hat
      rw [hbr]
      refine ⟨q1, q2, q3, fun j k o hj => ?_⟩
      obtain ⟨g1, g2, g3, g4, g5, g6, g7, g8⟩ := q4 j k o hj
      obtain ⟨bk1, -⟩ := brs_key hw k2 haw hne (List.mem_of_getElem? hj)
      refine ⟨g1, g2, by rw [chB_c hw ht h k2 haw hne bk1]; exact g3, g4, g5, g6, by rw [nPs_c h]; exact g7, fun j' j0 j1 => ?_⟩
      rw [nPs_c h] at j1
      rw [h.2.2.1.2.2.1]; exact g8 j' j0 j1
    · subst hr
      obtain ⟨f3, f4, f5, f6⟩ := (p1 hat).2 r rs rfl
      have hr1 := (k2.2.1 r (by simp)).2.1
      rw [h79 r.1 hr1.1 hr1.2]
      exact ⟨f3, f4, f5, f6⟩
  · obtain ⟨i, ⟨i0, i1, i2⟩, f6, rows, at_, hsh, hcase⟩ := b3 x x0 x1
    obtain ⟨k1, k2, k3⟩ := key i i0 (by omega) rows at_ hsh
    refine ⟨i, ⟨i0, i1, i2⟩, f6, rows, at_, k1, ?_⟩
    rcases hcase with ⟨hat, j, k, o, hj, hxj, hf1, hf2⟩ | ⟨hat, ⟨r, rs, hrr, hg⟩, hx7, hwx⟩
    · obtain ⟨haw, hne, hbr⟩ := k3 hat
      exact Or.inl ⟨hat, j, k, o, by rw [hbr]; exact hj, hxj, hf1, by rw [nPs_c h]; exact hf2⟩
    · have hr1 := (k2.2.1 r (by rw [hrr]; simp)).2.1
      exact Or.inr ⟨hat, ⟨r, rs, hrr, by rw [h79 r.1 hr1.1 hr1.2]; exact hg⟩, hx7, hwx⟩
theorem trO_c (hw : wfP D) (ht : wfT D) (hM : wfM D m) (h : cng D D' m) (hs : trO D t m M) : trO D' t m M := by
  rcases hs with ⟨z1, z2⟩ | ⟨nd, pi, evs, z⟩
  · exact Or.inl ⟨z1, by rw [fin_cg hw ht hM h]; exact z2⟩
  · exact Or.inr ⟨nd, pi, evs, stT_c hw ht hM h z⟩
end CCN
