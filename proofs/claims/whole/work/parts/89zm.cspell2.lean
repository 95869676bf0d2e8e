/-! ===== the class: spell ===== -/
/-- an item that is told as a plain value -/
def itP (D : xM) (t : Nat) (M : xM) (it lev : Int) (l : List Int) : Prop := ∃ (tt : Int) (n : Nat), (0 ≤ tt ∧ tt < D 59 1 ∧ 0 < D 63 tt) ∧ l = ptx D n tt ∧ rk D (D 63 tt) 8 < n ∧ n ≤ 9 ∧ lev = 50 - n ∧ ((it < 0 ∧ it = -tt - 1) ∨ ((0 ≤ it ∧ it < 360) ∧ M 56 it = -1 ∧ M (t + 2) it = tt))
/-- a place of which something is known -/
def itK (D : xM) (a : aN) (π dp : Int → Int) (it lev : Int) (l : List Int) : Prop := ∃ (q : Int) (n : Nat), (0 ≤ q ∧ q < a.2.2.1) ∧ it = π q ∧ a.2.2.2.1 89 q = 1 ∧ l = tx D a.2.2.2.1 n q ∧ 40 - dp q < (n : Int) ∧ lev = dp q
def itm (D : xM) (t : Nat) (M : xM) (a : aN) (π dp : Int → Int) (it lev : Int) (l : List Int) : Prop := itP D t M it lev l ∨ itK D a π dp it lev l
/-- what is open -/
def stk (It : Int → Int → List Int → Prop) (A : Int → Int) : List (Int × Int × List Int) → Prop
  | [] => True
  | x :: st => A st.length = x.1 ∧ It x.1 x.2.1 x.2.2 ∧ ((st.length : Int) + 1 ≤ 2 * x.2.1 + 3 ∧ x.2.1 ≤ 50) ∧ stk It A st
def txt : List (Int × Int × List Int) → List Int
  | [] => []
  | x :: st => x.2.2 ++ txt st
section CSL
variable {D : xM} {t : Nat} {e : yE} {d : Nat} {m : Int}
theorem stk_cg {It : Int → Int → List Int → Prop} {A A' : Int → Int} : ∀ st : List (Int × Int × List Int), (∀ i : Int, 0 ≤ i → i < st.length → A' i = A i) → stk It A st → stk It A' st := by
  intro st
  induction st with
  | nil => intro _ _; trivial
  | cons x st ih =>
    intro h hs
    obtain ⟨h1, h2, h3, h4⟩ := hs
    rw [List.length_cons] at h
    exact ⟨by rw [h _ (by omega) (by omega)]; exact h1, h2, h3, ih (fun i i0 i1 => h i i0 (by omega)) h4⟩
theorem rk9 {v : Int} : rk D v 8 < 9 := by have := rk_le (D := D) (v := v) 8; omega
/-- any place of a node -/
theorem it_place {M : xM} {a : aN} {π B dp : Int → Int} {hi q : Int} {n : Nat} (hpb : pbI D t M a π hi B dp) (hB : ∀ p, 0 ≤ p → p < 360 → M 56 p = B p) (hpi : ∀ q, 0 ≤ q → q < a.2.2.1 → 0 ≤ π q ∧ π q < 360) (hty : ∀ q, 0 ≤ q → q < a.2.2.1 → M (t + 2) (π q) = a.2.2.2.1 88 q) (q0 : 0 ≤ q) (q1 : q < a.2.2.1) (hn : 40 - dp q < (n : Int)) : ∃ lev, (dp q ≤ lev ∧ lev ≤ 50) ∧ itm D t M a π dp (π q) lev (tx D a.2.2.2.1 n q) := by
  obtain ⟨P1, P2, P3, P4⟩ := hpb
  obtain ⟨d1, d2⟩ := P3 q q0 q1
  obtain ⟨n, rfl⟩ : ∃ n', n = n' + 1 := ⟨n - 1, by omega⟩
  rcases P1 q q0 q1 with ⟨u1, u2⟩ | ⟨u1, -⟩
  · refine ⟨41, by omega, Or.inl ⟨a.2.2.2.1 88 q, 9, d2, ?_, rk9, by decide, by decide, Or.inr ⟨hpi q q0 q1, ?_, hty q q0 q1⟩⟩⟩
    · show (if a.2.2.2.1 89 q = 0 then _ else _) = _
      rw [if_pos u1]
    · rw [hB _ (hpi q q0 q1).1 (hpi q q0 q1).2]; exact u2
  · exact ⟨dp q, by omega, Or.inr ⟨q, n + 1, ⟨q0, q1⟩, rfl, u1, rfl, hn, rfl⟩⟩
/-- parts are put upon what is open -/
theorem s_push {mq : Nat} {M0 : xM} {It : Int → Int → List Int → Prop} {x4 ty x7 lab L : Int} {st0 : List (Int × Int × List Int)} {f : Int → List Int} {p : Nat} {Q : Int → xM → Prop} {q1 : Nat} (hs : CSh e) (hq : XSh3 mq e) (h99 : 99 < mq) (hp3 : p ≤ 3) (hL : (st0.length : Int) + 1 ≤ 2 * L + 3 ∧ L ≤ 50) (h7 : x7 = -1 ∨ (0 ≤ x7 ∧ x7 < 120)) (hq1 : q1 ≠ 57)
    (hch : ∀ k : Int, 0 ≤ k → k < p → ∃ c lev, (L + 1 ≤ lev ∧ lev ≤ 50) ∧ It c lev (f k) ∧ (x7 ≠ -1 → M0 (mq + 16) x7 + k = c) ∧ (x7 = -1 → (0 ≤ ((ty * 6 + lab) * 3 + k) ∧ ((ty * 6 + lab) * 3 + k) < 144) ∧ xxor32 (M0 5 ((ty * 6 + lab) * 3 + k)) (-1) = c))
    (hend : ∀ cur M', stk It (M' 57) cur → txt cur = flS f p 0 ++ txt st0 → (∀ j, j ≠ 57 → M' j = M0 j) → C_Te_spell_40 e (d + 1) mq cur.length x4 M' Q) : ∀ (n : Nat) (cur : List (Int × Int × List Int)) (M1 : xM), n ≤ p → (cur.length : Int) ≤ st0.length + (p - n : Nat) → txt cur = flS f (p - n) n ++ txt st0 → stk It (M1 57) cur → (∀ j, j ≠ 57 → M1 j = M0 j) → C_Te_spell_165 e (d + 1) mq cur.length x4 ty x7 lab ((n : Int) - 1) M1 Q := by
  intro n
  induction n with
  | zero =>
    intro cur M1 hn hl ht hk hf
    exact c_Te_spell_165 hs hq ⟨⟨by omega, by omega⟩, fun _ => hend cur M1 hk (by rw [ht]; rfl) hf, fun z => absurd (by omega) z⟩
  | succ n ih =>
    intro cur M1 hn hl ht hk hf
    obtain ⟨c, lev, hlev, hit, hc1, hc2⟩ := hch n (by omega) (by omega)
    have hlen : (cur.length : Int) + 1 ≤ 2 * lev + 3 := by omega
    have next : ∀ M2, M2 = xup M1 57 cur.length c → C_Te_spell_165 e (d + 1) mq ((cur.length : Int) + 1) x4 ty x7 lab (((n + 1 : Nat) : Int) - 1 + -1) M2 Q := by
      intro M2 e2
      have := ih ((c, lev, f n) :: cur) M2 (by omega) (by rw [List.length_cons]; omega) ?_ ?_ (fun j hj => by rw [e2, xrd hj]; exact hf j hj)
      · rw [List.length_cons] at this
        rw [show (((n + 1 : Nat) : Int) - 1 + -1) = (n : Int) - 1 by omega]
        exact this
      · show f n ++ txt cur = _
        rw [ht, ← List.append_assoc]
        congr 1
        have : p - n = (p - (n + 1)) + 1 := by omega
        rw [this]; rfl
      · refine ⟨by rw [e2, xrs], hit, ⟨hlen, hlev.2⟩, stk_cg cur (fun i i0 i1 => by rw [e2, xri (by omega)]) hk⟩
    refine c_Te_spell_165 hs hq ⟨⟨by omega, by omega⟩, fun z => absurd z (by omega), fun _ => ⟨⟨by omega, by omega⟩, fun z => absurd z (by omega), fun _ => ⟨by rcases h7 with z | z <;> exact ⟨by omega, by omega⟩, fun z => ?_, fun z => ?_⟩⟩⟩
    · refine ⟨by omega, by omega, fun M2 e2 => next M2 ?_⟩
      rw [e2, hf (mq + 16) (by omega), show M0 (mq + 16) x7 + (((n + 1 : Nat) : Int) - 1) = c by rw [← hc1 z]; omega]
    · have z0 : x7 = -1 := Classical.not_not.mp z
      obtain ⟨b1, b2⟩ := hc2 z0
      refine c_Ty_partTypeOf (c_Ty_partTypeOf_0 hs ⟨by omega, ⟨by omega, fun M2 e2 => next M2 ?_⟩⟩)
      rw [e2, hf 5 (by decide), show (ty * 6 + lab) * 3 + (((n + 1 : Nat) : Int) - 1) = (ty * 6 + lab) * 3 + n by omega, b2]
end CSL
