theorem omBe_1 {v n : Nat} {p d r : Nat → Int} : omBe v n p d r 1 = 0 := by
  have hnb : ¬ omBt v n p d r 0 (omBe v n p d r 0) := by
    unfold omBt
    have e0 : omBe v n p d r 0 = 0 := rfl
    rw [e0]
    omega
  rw [omBe_f hnb]
  rfl
