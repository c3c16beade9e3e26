theorem s_X4_endBehind_8 {n S j : Nat} {u t : Int} {p d w r f s : Nat → Int} {τ : omH} (hok : omOk n p d w r f s) (hc : omCv n p d w r f s τ) (h1 : τ 38 1 = (8 : Nat)) (hj : j < n) : s_X4_endBehind S u t j τ = some (t + p j) := by
  have hn := hok.1
  unfold s_X4_endBehind
  rw [h1, Int.toNat_natCast, omg_t ⟨by decide, by decide⟩, omg_t ⟨by decide, by decide⟩, if_pos (by decide), om_wn (show j < 2147483648 by omega), omg_t ⟨by omega, by omega⟩, Int.toNat_natCast, hc.2.1]
theorem s_X4_endBehind_9 {n S j : Nat} {u t : Int} {p d w r f s : Nat → Int} {τ : omH} (hok : omOk n p d w r f s) (hc : omCv n p d w r f s τ) (h1 : τ 38 1 = (9 : Nat)) (hj : j < n) (hu : -1 ≤ u ∧ u ≤ 4) : s_X4_endBehind S u t j τ = some (t + omSu f s u j + p j) := by
  have hn := hok.1
  unfold s_X4_endBehind
  rw [h1, Int.toNat_natCast, omg_t ⟨by decide, by decide⟩, omg_t ⟨by decide, by decide⟩, if_neg (by decide), if_pos (by decide), s_X2_setupBehind_eq hok hc hj hu, om_b0, om_wn (show j < 2147483648 by omega), omg_t ⟨by omega, by omega⟩, Int.toNat_natCast, hc.2.1]
