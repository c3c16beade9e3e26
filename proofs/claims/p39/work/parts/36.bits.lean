/-! ===== how many are in a set ===== -/
def omPop (S : Nat) : Int := omSum 10 (fun j => if S.testBit j then 1 else 0)
set_option maxRecDepth 100000 in
set_option maxHeartbeats 4000000 in
theorem om_pop_all : ∀ S : Nat, S < 1024 → (s_J6_bitCount_0f7a4 (S : Int) omS0) = some (omPop S) := by
  decide +kernel
theorem s_J6_bitCount_eq {S : Nat} {σ : omH} (hS : S < 1024) : s_J6_bitCount_0f7a4 (S : Int) σ = some (omPop S) := om_pop_all S hS
