/-! ===== the class: the invariant holds when a tree has begun ===== -/
section CIX
variable {D : xM} {t mq : Nat} {m : Int}
theorem iv_start {e e' : yE} {M M' : xM} {cs cl cs' cl' : Nat} (hw : wfP D) (hwt : wfT D) (hM : wfM D m) (hU : ∀ r ∈ rtL D m (D 77 m).toNat, nmU D (D 75 m) r) (h : bgN D t mq m e M cs cl e' M' cs' cl') : ivT D t m M' (fun _ => root D m) (fun _ q => q) [] [0] := by
  obtain ⟨-, -, -, -, -, ⟨t0, t1, t2, t3, t4⟩, c1, c2, -, -, c5, c6, c7⟩ := h
  have h75 := hM.2.1
  have h77 := hM.2.2.1
  refine ⟨?_, ⟨t0, by rw [t1]; rfl, by omega, by omega, by omega⟩, ⟨by simp, fun i hi => ?_⟩, fun i i0 i1 => ?_, ⟨rfl, rfl⟩, ⟨?_, by omega⟩, fun k k0 k1 => by rw [c1 k k0 k1]; rfl, by rw [t2]; rfl, ⟨fun _ => t3, fun pre v post hv => ?_⟩⟩
  · show fin_ D m 120 [root D m] = (fin_ D m 120 [root D m]).map (fun l => [] ++ l)
    cases fin_ D m 120 [root D m] with
    | none => rfl
    | some l => rfl
  · rw [List.mem_singleton] at hi; omega
  · have hi : i = 0 := by omega
    subst hi
    refine ⟨⟨root_wf hw hM, hU, ⟨fun q q0 q1 => ?_, fun i j _ _ _ _ hij => hij⟩, fun q q0 q1 => ?_⟩, fun _ => c5, fun z => absurd (by simp) z⟩
    · have q1 : q < D 75 m := q1
      exact ⟨q0, by show q < M' t 4; omega⟩
    · have q1 : q < D 75 m := q1
      show M' (t + 2) q = (if (88 : Nat) = 88 ∧ 0 ≤ q ∧ q < 3 then D 76 (3 * m + q) else 0)
      rw [if_pos ⟨rfl, q0, by omega⟩]; exact c2 q q0 q1
  · have : sumR ([0].map (fun _ : Int => root D m)) = (D 77 m).toNat := by
      show (rtL D m (D 77 m).toNat).length + 0 = _
      rw [rtL_len]; omega
    rw [this, List.length_nil]; omega
  · cases pre <;> simp at hv
end CIX
