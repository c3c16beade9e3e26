/-! .. the reference's sequence by families -/
theorem omKe_uniq {n : Nat} {p d w r f s : Nat → Int} {R U : Nat → Int} (hok : omOk n p d w r f s) (hR : ∀ S u, u < 5 → S < 2 ^ n → omKs n d f S → omKe n p d f s R S u) (hU : ∀ S u, u < 5 → S < 2 ^ n → omUe 1 n p d f s U S u) : ∀ m S u, u < 5 → S < 2 ^ n → omKs n d f S → 2 ^ n - S ≤ m → R (5 * S + u) = U (5 * S + u) := by
  intro m
  induction m with
  | zero => intro S u hu hS hK hm; omega
  | succ m ih =>
    intro S u hu hS hK hm
    rw [(hR S u hu hS hK).1, hU S u hu hS]
    refine omFq_congr n (fun j hj => ⟨fun h => ⟨h.1, Or.inr h⟩, fun h => h.2.elim (fun h0 => absurd h0 (by decide)) id⟩) (fun j hj hP => ?_)
    unfold omUg
    rw [ih (S ||| 2 ^ j) (f j).toNat (by have := hok.2.1 j hj; omega) (om_ins_lt hS hj) (omKs_ins hK hP) (by have := om_or_gt hP.1; omega)]
