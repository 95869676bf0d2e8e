/-! ===== words, fields and types of the classes by number ===== -/
def xG : List Cond := lw_tbl.filter goodWord
theorem xG_of {w : Cond} (h : w ∈ lw_tbl) (hg : goodWord w = true) : w ∈ xG := List.mem_filter.mpr ⟨h, hg⟩
theorem xG_tbl {w : Cond} (h : w ∈ xG) : w ∈ lw_tbl := (List.mem_filter.mp h).1
theorem xG_good {w : Cond} (h : w ∈ xG) : goodWord w = true := (List.mem_filter.mp h).2
theorem x_wt_0 : ∀ w ∈ u_ws RX0 TX0 (xNf 0), w ∈ lw_tbl := by decide +kernel
theorem x_wg_0 : (u_ws RX0 TX0 (xNf 0)).all goodWord = true := by decide +kernel
theorem x_ws_0 : ∀ w ∈ u_ws RX0 TX0 (xNf 0), w ∈ xG := fun w h => xG_of (x_wt_0 w h) (List.all_eq_true.mp x_wg_0 w h)
theorem x_wt_1 : ∀ w ∈ u_ws RX1 TX1 (xNf 1), w ∈ lw_tbl := by decide +kernel
theorem x_wg_1 : (u_ws RX1 TX1 (xNf 1)).all goodWord = true := by decide +kernel
theorem x_ws_1 : ∀ w ∈ u_ws RX1 TX1 (xNf 1), w ∈ xG := fun w h => xG_of (x_wt_1 w h) (List.all_eq_true.mp x_wg_1 w h)
theorem x_wt_2 : ∀ w ∈ u_ws RX2 TX2 (xNf 2), w ∈ lw_tbl := by decide +kernel
theorem x_wg_2 : (u_ws RX2 TX2 (xNf 2)).all goodWord = true := by decide +kernel
theorem x_ws_2 : ∀ w ∈ u_ws RX2 TX2 (xNf 2), w ∈ xG := fun w h => xG_of (x_wt_2 w h) (List.all_eq_true.mp x_wg_2 w h)
theorem x_wt_3 : ∀ w ∈ u_ws RX3 TX3 (xNf 3), w ∈ lw_tbl := by decide +kernel
theorem x_wg_3 : (u_ws RX3 TX3 (xNf 3)).all goodWord = true := by decide +kernel
theorem x_ws_3 : ∀ w ∈ u_ws RX3 TX3 (xNf 3), w ∈ xG := fun w h => xG_of (x_wt_3 w h) (List.all_eq_true.mp x_wg_3 w h)
theorem x_wt_4 : ∀ w ∈ u_ws RX4 TX4 (xNf 4), w ∈ lw_tbl := by decide +kernel
theorem x_wg_4 : (u_ws RX4 TX4 (xNf 4)).all goodWord = true := by decide +kernel
theorem x_ws_4 : ∀ w ∈ u_ws RX4 TX4 (xNf 4), w ∈ xG := fun w h => xG_of (x_wt_4 w h) (List.all_eq_true.mp x_wg_4 w h)
theorem x_wt_5 : ∀ w ∈ u_ws RX5 TX5 (xNf 5), w ∈ lw_tbl := by decide +kernel
theorem x_wg_5 : (u_ws RX5 TX5 (xNf 5)).all goodWord = true := by decide +kernel
theorem x_ws_5 : ∀ w ∈ u_ws RX5 TX5 (xNf 5), w ∈ xG := fun w h => xG_of (x_wt_5 w h) (List.all_eq_true.mp x_wg_5 w h)
theorem x_wt_6 : ∀ w ∈ u_ws RX6 TX6 (xNf 6), w ∈ lw_tbl := by decide +kernel
theorem x_wg_6 : (u_ws RX6 TX6 (xNf 6)).all goodWord = true := by decide +kernel
theorem x_ws_6 : ∀ w ∈ u_ws RX6 TX6 (xNf 6), w ∈ xG := fun w h => xG_of (x_wt_6 w h) (List.all_eq_true.mp x_wg_6 w h)
theorem x_wt_7 : ∀ w ∈ u_ws RX7 TX7 (xNf 7), w ∈ lw_tbl := by decide +kernel
theorem x_wg_7 : (u_ws RX7 TX7 (xNf 7)).all goodWord = true := by decide +kernel
theorem x_ws_7 : ∀ w ∈ u_ws RX7 TX7 (xNf 7), w ∈ xG := fun w h => xG_of (x_wt_7 w h) (List.all_eq_true.mp x_wg_7 w h)
theorem x_wt_8 : ∀ w ∈ u_ws RX8 TX8 (xNf 8), w ∈ lw_tbl := by decide +kernel
theorem x_wg_8 : (u_ws RX8 TX8 (xNf 8)).all goodWord = true := by decide +kernel
theorem x_ws_8 : ∀ w ∈ u_ws RX8 TX8 (xNf 8), w ∈ xG := fun w h => xG_of (x_wt_8 w h) (List.all_eq_true.mp x_wg_8 w h)
theorem x_wt_9 : ∀ w ∈ u_ws RX9 TX9 (xNf 9), w ∈ lw_tbl := by decide +kernel
theorem x_wg_9 : (u_ws RX9 TX9 (xNf 9)).all goodWord = true := by decide +kernel
theorem x_ws_9 : ∀ w ∈ u_ws RX9 TX9 (xNf 9), w ∈ xG := fun w h => xG_of (x_wt_9 w h) (List.all_eq_true.mp x_wg_9 w h)
theorem x_wt_10 : ∀ w ∈ u_ws RX10 TX10 (xNf 10), w ∈ lw_tbl := by decide +kernel
theorem x_wg_10 : (u_ws RX10 TX10 (xNf 10)).all goodWord = true := by decide +kernel
theorem x_ws_10 : ∀ w ∈ u_ws RX10 TX10 (xNf 10), w ∈ xG := fun w h => xG_of (x_wt_10 w h) (List.all_eq_true.mp x_wg_10 w h)
theorem x_ws : ∀ c, c < 11 → ∀ w ∈ u_ws (xRX c) (xTX c) (xNf c), w ∈ xG := fun c h => match c, h with
  | 0, _ => x_ws_0
  | 1, _ => x_ws_1
  | 2, _ => x_ws_2
  | 3, _ => x_ws_3
  | 4, _ => x_ws_4
  | 5, _ => x_ws_5
  | 6, _ => x_ws_6
  | 7, _ => x_ws_7
  | 8, _ => x_ws_8
  | 9, _ => x_ws_9
  | 10, _ => x_ws_10
  | n + 11, h => absurd h (by omega)
theorem x_cl : ∀ c, c < 11 → vwCl[c]? = some (xRX c, xTX c, xNf c) := fun c h => match c, h with
  | 0, _ => rfl
  | 1, _ => rfl
  | 2, _ => rfl
  | 3, _ => rfl
  | 4, _ => rfl
  | 5, _ => rfl
  | 6, _ => rfl
  | 7, _ => rfl
  | 8, _ => rfl
  | 9, _ => rfl
  | 10, _ => rfl
  | n + 11, h => absurd h (by omega)
theorem x_ty : ∀ c, c < 11 → ∀ k, k < xNf c → parseFieldDescriptor (xTX c k).2.2.1 = some (xTy c k) := fun c h => match c, h with
  | 0, _ => tyX0_ok
  | 1, _ => tyX1_ok
  | 2, _ => tyX2_ok
  | 3, _ => tyX3_ok
  | 4, _ => tyX4_ok
  | 5, _ => tyX5_ok
  | 6, _ => tyX6_ok
  | 7, _ => tyX7_ok
  | 8, _ => tyX8_ok
  | 9, _ => tyX9_ok
  | 10, _ => tyX10_ok
  | n + 11, h => absurd h (by omega)
theorem x_nm : ∀ c, c < 11 → ∀ a, a < xNf c → ∀ b, b < xNf c → a ≠ b → (xTX c a).2.1 ≠ (xTX c b).2.1 := fun c h => match c, h with
  | 0, _ => nmX0
  | 1, _ => nmX1
  | 2, _ => nmX2
  | 3, _ => nmX3
  | 4, _ => nmX4
  | 5, _ => nmX5
  | 6, _ => nmX6
  | 7, _ => nmX7
  | 8, _ => nmX8
  | 9, _ => nmX9
  | 10, _ => nmX10
  | n + 11, h => absurd h (by omega)
def xtok : Nat → FieldType → Bool
  | 0, .int => true
  | 4, .boolean => true
  | 1, .object _ => true
  | 1, .array _ => true
  | 2, .object _ => true
  | 2, .array _ => true
  | 3, .object _ => true
  | 3, .array _ => true
  | _, _ => false
theorem x_tok_0 : ∀ j, j < xNf 0 → xtok (xft0 0 j).1 (xTy 0 j) = true := by decide +kernel
theorem x_tok_1 : ∀ j, j < xNf 1 → xtok (xft0 1 j).1 (xTy 1 j) = true := by decide +kernel
theorem x_tok_2 : ∀ j, j < xNf 2 → xtok (xft0 2 j).1 (xTy 2 j) = true := by decide +kernel
theorem x_tok_3 : ∀ j, j < xNf 3 → xtok (xft0 3 j).1 (xTy 3 j) = true := by decide +kernel
theorem x_tok_4 : ∀ j, j < xNf 4 → xtok (xft0 4 j).1 (xTy 4 j) = true := by decide +kernel
theorem x_tok_5 : ∀ j, j < xNf 5 → xtok (xft0 5 j).1 (xTy 5 j) = true := by decide +kernel
theorem x_tok_6 : ∀ j, j < xNf 6 → xtok (xft0 6 j).1 (xTy 6 j) = true := by decide +kernel
theorem x_tok_7 : ∀ j, j < xNf 7 → xtok (xft0 7 j).1 (xTy 7 j) = true := by decide +kernel
theorem x_tok_8 : ∀ j, j < xNf 8 → xtok (xft0 8 j).1 (xTy 8 j) = true := by decide +kernel
theorem x_tok_9 : ∀ j, j < xNf 9 → xtok (xft0 9 j).1 (xTy 9 j) = true := by decide +kernel
theorem x_tok_10 : ∀ j, j < xNf 10 → xtok (xft0 10 j).1 (xTy 10 j) = true := by decide +kernel
theorem x_tok : ∀ c, c < 11 → ∀ j, j < xNf c → xtok (xft0 c j).1 (xTy c j) = true := fun c h => match c, h with
  | 0, _ => x_tok_0
  | 1, _ => x_tok_1
  | 2, _ => x_tok_2
  | 3, _ => x_tok_3
  | 4, _ => x_tok_4
  | 5, _ => x_tok_5
  | 6, _ => x_tok_6
  | 7, _ => x_tok_7
  | 8, _ => x_tok_8
  | 9, _ => x_tok_9
  | 10, _ => x_tok_10
  | n + 11, h => absurd h (by omega)
