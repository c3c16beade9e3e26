/-! ===== orders: the class's insertion, the reference's counting ===== -/
def omSt (b : Nat → Nat → Prop) (n : Nat) (q : Nat → Nat) : Prop := (∀ k, k < n → q k < n) ∧ (∀ j, j < n → ∃ k, k < n ∧ q k = j) ∧ ∀ i k, i < k → k < n → b (q i) (q k)
/-- a strict order of the jobs below n -/
def omSO (n : Nat) (b : Nat → Nat → Prop) : Prop := (∀ i, i < n → ¬ b i i) ∧ (∀ i j k, i < n → j < n → k < n → b i j → b j k → b i k) ∧ ∀ i j, i < n → j < n → i ≠ j → b i j ∨ b j i
theorem omSO.asym {n : Nat} {b : Nat → Nat → Prop} (h : omSO n b) {i j : Nat} (hi : i < n) (hj : j < n) (hij : b i j) : ¬ b j i := fun hji => h.1 i hi (h.2.1 i j i hi hj hi hij hji)
theorem omSt.inj {b : Nat → Nat → Prop} {n : Nat} {q : Nat → Nat} (hb : omSO n b) (h : omSt b n q) {i k : Nat} (hi : i < n) (hk : k < n) (e : q i = q k) : i = k := by
  rcases Nat.lt_trichotomy i k with h1 | h1 | h1
  · exact absurd (h.2.2 i k h1 hk) (by rw [e]; exact hb.1 _ (h.1 k hk))
  · exact h1
  · exact absurd (h.2.2 k i h1 hi) (by rw [e]; exact hb.1 _ (h.1 k hk))
/-- by a key, of several with the same one by rising numbers -/
def omBk (g : Nat → Int) (i j : Nat) : Prop := g i < g j ∨ (g i = g j ∧ i < j)
theorem omBk_so (n : Nat) (g : Nat → Int) : omSO n (omBk g) := by
  unfold omBk
  refine ⟨fun i _ => by omega, fun i j k _ _ _ h1 h2 => by omega, fun i j _ _ hne => by omega⟩
/-- by falling ratios -/
def omBr (w p : Nat → Int) (i j : Nat) : Prop := w j * p i < w i * p j ∨ (w i * p j = w j * p i ∧ i < j)
theorem om_cross {wi wj wk pi pj pk : Int} (hi : 0 < pi) (hj : 0 < pj) (hk : 0 < pk) (h1 : wj * pi ≤ wi * pj) (h2 : wk * pj ≤ wj * pk) : wk * pi ≤ wi * pk ∧ ((wj * pi < wi * pj ∨ wk * pj < wj * pk) → wk * pi < wi * pk) := by
  have a1 : (wj * pi) * pk ≤ (wi * pj) * pk := Int.mul_le_mul_of_nonneg_right h1 (by omega)
  have a2 : (wk * pj) * pi ≤ (wj * pk) * pi := Int.mul_le_mul_of_nonneg_right h2 (by omega)
  have e1 : (wj * pi) * pk = (wj * pk) * pi := by rw [Int.mul_assoc, Int.mul_comm pi pk, ← Int.mul_assoc]
  have e2 : (wi * pj) * pk = (wi * pk) * pj := by rw [Int.mul_assoc, Int.mul_comm pj pk, ← Int.mul_assoc]
  have e3 : (wk * pj) * pi = (wk * pi) * pj := by rw [Int.mul_assoc, Int.mul_comm pj pi, ← Int.mul_assoc]
  refine ⟨Int.le_of_mul_le_mul_right (by omega : (wk * pi) * pj ≤ (wi * pk) * pj) hj, fun h => ?_⟩
  rcases h with h | h
  · have b1 : (wj * pi) * pk < (wi * pj) * pk := Int.mul_lt_mul_of_pos_right h hk
    exact Int.lt_of_mul_lt_mul_right (by omega : (wk * pi) * pj < (wi * pk) * pj) (by omega)
  · have b1 : (wk * pj) * pi < (wj * pk) * pi := Int.mul_lt_mul_of_pos_right h hi
    exact Int.lt_of_mul_lt_mul_right (by omega : (wk * pi) * pj < (wi * pk) * pj) (by omega)
theorem omBr_so {n : Nat} {w p : Nat → Int} (hp : ∀ j, j < n → 0 < p j) : omSO n (omBr w p) := by
  unfold omBr
  refine ⟨fun i _ => by omega, fun i j k hi hj hk h1 h2 => ?_, fun i j _ _ hne => by omega⟩
  have h := om_cross (wi := w i) (wj := w j) (wk := w k) (hp i hi) (hp j hj) (hp k hk) (by omega) (by omega)
  rcases h1 with h1 | ⟨h1, h1'⟩
  · exact Or.inl (h.2 (Or.inl h1))
  · rcases h2 with h2 | ⟨h2, h2'⟩
    · exact Or.inl (h.2 (Or.inr h2))
    · have h' := om_cross (wi := w k) (wj := w j) (wk := w i) (hp k hk) (hp j hj) (hp i hi) (by omega) (by omega)
      omega
/-- the order by one of the class's keys, and what must stand behind -/
def omKb (c : Nat) (p d w r : Nat → Int) : Nat → Nat → Prop := if c = 5 then omBk d else if c = 6 then omBk r else omBr w p
def omPb (c : Nat) (p d w r : Nat → Int) (i j : Nat) : Prop := if c = 5 then d j < d i else if c = 6 then r j < r i else w i * p j < w j * p i
theorem omKb_so {n c : Nat} {p d w r f s : Nat → Int} (hok : omOk n p d w r f s) : omSO n (omKb c p d w r) := by
  unfold omKb
  split
  · exact omBk_so _ _
  · split
    · exact omBk_so _ _
    · exact omBr_so (fun j hj => by have := hok.2.1 j hj; omega)
theorem omPb_iff {c i j : Nat} {p d w r : Nat → Int} (hij : i < j) : (omPb c p d w r i j → omKb c p d w r j i) ∧ (¬ omPb c p d w r i j → omKb c p d w r i j) := by
  unfold omPb omKb omBk omBr
  split
  · omega
  · split
    · omega
    · omega
theorem s_X3_putsBehind_eq {n c i j : Nat} {p d w r f s : Nat → Int} {σ : omH} (hok : omOk n p d w r f s) (hv : omCv n p d w r f s σ) (hc : 5 ≤ c ∧ c < 8) (hi : i < n) (hj : j < n) : (omPb c p d w r i j → s_X3_putsBehind c i j σ = some 1) ∧ (¬ omPb c p d w r i j → s_X3_putsBehind c i j σ = some 0) := by
  obtain ⟨h17, h18, h19, h20, h21, h22, h23⟩ := hv
  have hn := hok.1
  have hoi := hok.2.1 i hi
  have hoj := hok.2.1 j hj
  have m1 := om_mul_rng (a := w i) (A := 20) (b := p j) (B := 30) (by omega) (by omega)
  have m2 := om_mul_rng (a := w j) (A := 20) (b := p i) (B := 30) (by omega) (by omega)
  have key : s_X3_putsBehind c i j σ = if c = 5 then (if d j < d i then some 1 else some 0) else if c = 6 then (if r j < r i then some 1 else some 0) else (if w i * p j < w j * p i then some 1 else some 0) := by
    unfold s_X3_putsBehind
    rw [omg_t hc, h18, h19, h20, h21, om_wn (show i < 2147483648 by omega), om_wn (show j < 2147483648 by omega), Int.toNat_natCast, Int.toNat_natCast, omw_id (a := d i) (by omega) (by omega), omw_id (a := d j) (by omega) (by omega), omw_id (a := r i) (by omega) (by omega), omw_id (a := r j) (by omega) (by omega), omw_id (a := w i * p j) (by omega) (by omega), omw_id (a := w j * p i) (by omega) (by omega)]
    have hcs : c = 5 ∨ c = 6 ∨ c = 7 := by omega
    rcases hcs with rfl | rfl | rfl
    · rw [omg_t (by decide), if_pos (by decide), omg_t ⟨by omega, by omega⟩, omg_t ⟨by omega, by omega⟩]
      rfl
    · rw [omg_t (by decide), if_neg (by decide), if_pos (by decide), omg_t ⟨by omega, by omega⟩, omg_t ⟨by omega, by omega⟩]
      rfl
    · rw [omg_t (by decide), if_neg (by decide), if_neg (by decide), if_pos (by decide), omg_t ⟨by omega, by omega⟩, omg_t ⟨by omega, by omega⟩, omg_t ⟨by omega, by omega⟩, omg_t ⟨by omega, by omega⟩]
      rfl
  rw [key]
  unfold omPb
  split
  · exact ⟨fun h => if_pos h, fun h => if_neg h⟩
  · split
    · exact ⟨fun h => if_pos h, fun h => if_neg h⟩
    · exact ⟨fun h => if_pos h, fun h => if_neg h⟩
/-- one job put in: it stops at a place t -/
theorem l_X2_fillInOrder_13_eq {n c a j : Nat} {p d w r f s : Nat → Int} {ρ : Nat → Nat} (hok : omOk n p d w r f s) (hc : 5 ≤ c ∧ c < 8) (ha : a ∉ [17, 18, 19, 20, 21, 22, 23]) (hj : j < n) (hρ : ∀ k, k < j → ρ k < j) :
    ∀ (t fuel : Nat) (σ : omH), t ≤ j → t < fuel → omCv n p d w r f s σ → (∀ k, k < t → σ a k = ρ k) → (∀ k, t < k → k ≤ j → σ a k = ρ (k - 1)) → (∀ k, t ≤ k → k < j → omPb c p d w r (ρ k) j) →
      ∃ (t' : Nat) (σ' : omH), l_X2_fillInOrder_13 a c j fuel t σ = some ((t' : Int), σ') ∧ t' ≤ t ∧ omEx [a] σ σ' ∧ (∀ k, k < t' → σ' a k = ρ k) ∧ (∀ k, t' < k → k ≤ j → σ' a k = ρ (k - 1)) ∧ (∀ k, t' ≤ k → k < j → omPb c p d w r (ρ k) j) ∧ (0 < t' → ¬ omPb c p d w r (ρ (t' - 1)) j) := by
  have hn := hok.1
  intro t
  induction t with
  | zero =>
    intro fuel σ ht hf hv h1 h2 h3
    obtain ⟨fuel, rfl⟩ : ∃ z, fuel = z + 1 := ⟨fuel - 1, by omega⟩
    rw [l_X2_fillInOrder_13.eq_2, if_neg (by decide)]
    exact ⟨0, σ, rfl, Nat.le_refl _, omEx.rfl', h1, h2, h3, fun h => absurd h (by decide)⟩
  | succ t ih =>
    intro fuel σ ht hf hv h1 h2 h3
    obtain ⟨fuel, rfl⟩ : ∃ z, fuel = z + 1 := ⟨fuel - 1, by omega⟩
    rw [l_X2_fillInOrder_13.eq_2, if_pos (by rw [om_wn (by omega)]; omega)]
    have e1 : (((t + 1 : Nat) : Int) - 1) = (t : Int) := by omega
    simp only [e1, om_wn (show t < 2147483648 by omega), om_wn (show t + 1 < 2147483648 by omega), Int.toNat_natCast]
    rw [omg_t ⟨by omega, by omega⟩, omg_t hc, h1 t (by omega)]
    have hpb := s_X3_putsBehind_eq (i := ρ t) (j := j) hok hv hc (by have := hρ t (by omega); omega) hj
    by_cases hb : omPb c p d w r (ρ t) j
    · rw [hpb.1 hb, om_b0, if_neg (by decide), omg_t ⟨by omega, by omega⟩, omg_t ⟨by omega, by omega⟩]
      have ex1 : omEx [a] σ (omsu σ a (t + 1) (ρ t)) := omEx.su (by simp)
      have e2 : (((t + 1 : Nat) : Int) + (-1)) = (t : Int) := by omega
      rw [e2]
      obtain ⟨t', σ', q1, q2, q3, q4, q5, q6, q7⟩ := ih fuel (omsu σ a (t + 1) (ρ t)) (by omega) (by omega) (hv.ex ex1 (by intro o ho; simp only [List.mem_singleton]; intro h; exact ha (h ▸ ho))) (fun k hk => by rw [omsu_n (Or.inr (by omega))]; exact h1 k (by omega)) (fun k hk hk' => by
        by_cases hk2 : k = t + 1
        · subst hk2; rw [omsu_s]; rfl
        · rw [omsu_n (Or.inr hk2)]; exact h2 k (by omega) hk') (fun k hk hk' => by
        by_cases hk2 : k = t
        · subst hk2; exact hb
        · exact h3 k (by omega) hk')
      exact ⟨t', σ', q1, by omega, ex1.trans q3, q4, q5, q6, q7⟩
    · rw [hpb.2 hb, om_b0, if_pos (by decide)]
      exact ⟨t + 1, σ, rfl, Nat.le_refl _, omEx.rfl', h1, h2, h3, fun _ => hb⟩
theorem l_X2_fillInOrder_2_eq {n c a : Nat} {p d w r f s : Nat → Int} (hok : omOk n p d w r f s) (hc : 5 ≤ c ∧ c < 8) (ha : a ∉ [17, 18, 19, 20, 21, 22, 23]) :
    ∀ (m j fuel : Nat) (σ : omH) (q : Nat → Nat), j + m = n → m < fuel → omCv n p d w r f s σ → omSt (omKb c p d w r) j q → (∀ k, k < j → σ a k = q k) →
      ∃ (σ' : omH) (q' : Nat → Nat), l_X2_fillInOrder_2 a c fuel j σ = some σ' ∧ omEx [a] σ σ' ∧ omSt (omKb c p d w r) n q' ∧ ∀ k, k < n → σ' a k = q' k := by
  have hn := hok.1
  have hso := omKb_so (c := c) hok
  intro m
  induction m with
  | zero =>
    intro j fuel σ q hj hf hv hq hr
    obtain ⟨fuel, rfl⟩ : ∃ z, fuel = z + 1 := ⟨fuel - 1, by omega⟩
    have : j = n := by omega
    subst this
    rw [l_X2_fillInOrder_2.eq_2, hv.1, if_neg (by omega)]
    exact ⟨σ, q, rfl, omEx.rfl', hq, hr⟩
  | succ m ih =>
    intro j fuel σ q hj hf hv hq hr
    obtain ⟨fuel, rfl⟩ : ∃ z, fuel = z + 1 := ⟨fuel - 1, by omega⟩
    rw [l_X2_fillInOrder_2.eq_2, hv.1, if_pos (by rw [om_wn (by omega), om_wn (by omega)]; omega)]
    obtain ⟨t, σ1, q1, q2, q3, q4, q5, q6, q7⟩ := l_X2_fillInOrder_13_eq (c := c) (a := a) (j := j) (ρ := q) hok hc ha (by omega) hq.1 j FU σ (Nat.le_refl _) (by rw [FU_eq]; omega) hv hr (fun k h1 h2 => by omega) (fun k h1 h2 => by omega)
    rw [q1, om_b0]
    show ∃ σ' q', omg (0 ≤ omw (t : Int) ∧ omw (t : Int) < 10) (l_X2_fillInOrder_2 a c fuel ((j : Int) + 1) (omsu σ1 a (omw (t : Int)).toNat j)) = some σ' ∧ _
    simp only [om_wn (show t < 2147483648 by omega), Int.toNat_natCast]
    rw [omg_t ⟨by omega, by omega⟩, show ((j : Int) + 1) = ((j + 1 : Nat) : Int) by omega]
    have ex1 : omEx [a] σ (omsu σ1 a t j) := q3.trans (omEx.su (by simp))
    have hcut : ∀ k, k < t → omKb c p d w r (q k) j := by
      intro k hk
      have h1 := hq.1 k (by omega)
      have h2 := (omPb_iff (c := c) (p := p) (d := d) (w := w) (r := r) (hq.1 (t - 1) (by omega))).2 (q7 (by omega))
      by_cases hk2 : k = t - 1
      · rw [hk2]; exact h2
      · exact hso.2.1 _ (q (t - 1)) _ (by omega) (by have := hq.1 (t - 1) (by omega); omega) (by omega) (hq.2.2 k (t - 1) (by omega) (by omega)) h2
    have hsuf : ∀ k, t ≤ k → k < j → omKb c p d w r j (q k) := fun k h1 h2 => (omPb_iff (hq.1 k h2)).1 (q6 k h1 h2)
    have hA : omSt (omKb c p d w r) (j + 1) (fun k => if k < t then q k else if k = t then j else q (k - 1)) := by
      refine ⟨fun k hk => ?_, fun i hi => ?_, fun i k hik hk => ?_⟩
      · dsimp only
        split
        · have := hq.1 k (by omega); omega
        · split
          · omega
          · have := hq.1 (k - 1) (by omega); omega
      · by_cases hij : i = j
        · exact ⟨t, by omega, by simp [hij]⟩
        · obtain ⟨k, hk, e⟩ := hq.2.1 i (by omega)
          by_cases hkt : k < t
          · exact ⟨k, by omega, by simp [hkt, e]⟩
          · exact ⟨k + 1, by omega, by simp [show ¬ k + 1 < t by omega, show k + 1 ≠ t by omega, e]⟩
      · dsimp only
        by_cases h1 : k < t
        · rw [if_pos h1, if_pos (by omega)]
          exact hq.2.2 i k hik (by omega)
        · rw [if_neg h1]
          by_cases h2 : k = t
          · rw [if_pos h2, if_pos (by omega)]
            exact hcut i (by omega)
          · rw [if_neg h2]
            by_cases h3 : i < t
            · rw [if_pos h3]
              exact hq.2.2 i (k - 1) (by omega) (by omega)
            · rw [if_neg h3]
              by_cases h4 : i = t
              · rw [if_pos h4]
                exact hsuf (k - 1) (by omega) (by omega)
              · rw [if_neg h4]
                exact hq.2.2 (i - 1) (k - 1) (by omega) (by omega)
    have hB : ∀ k, k < j + 1 → omsu σ1 a t j a k = (((fun k => if k < t then q k else if k = t then j else q (k - 1)) k : Nat) : Int) := by
      intro k hk
      dsimp only
      by_cases h1 : k < t
      · rw [omsu_n (Or.inr (by omega)), if_pos h1]; exact q4 k h1
      · rw [if_neg h1]
        by_cases h2 : k = t
        · rw [if_pos h2, h2, omsu_s]
        · rw [if_neg h2, omsu_n (Or.inr h2)]
          exact q5 k (by omega) (by omega)
    obtain ⟨σ', q', z1, z2, z3, z4⟩ := ih (j + 1) fuel (omsu σ1 a t j) _ (by omega) (by omega) (hv.ex ex1 (by intro o ho; simp only [List.mem_singleton]; intro h; exact ha (h ▸ ho))) hA hB
    exact ⟨σ', q', z1, ex1.trans z2, z3, z4⟩
/-- Jobs.fillInOrder -/
theorem s_X2_fillInOrder_eq {n c a : Nat} {p d w r f s : Nat → Int} {σ : omH} (hok : omOk n p d w r f s) (hv : omCv n p d w r f s σ) (hc : 5 ≤ c ∧ c < 8) (ha : a = 30 ∨ a = 31 ∨ a = 36 ∨ a = 39 ∨ a = 41) :
    ∃ (σ' : omH) (q : Nat → Nat), s_X2_fillInOrder a c σ = some σ' ∧ omEx [a] σ σ' ∧ omSt (omKb c p d w r) n q ∧ ∀ k, k < n → σ' a k = q k := by
  have hn := hok.1
  obtain ⟨σ', q', z1, z2, z3, z4⟩ := l_X2_fillInOrder_2_eq (a := a) hok hc (by simp; omega) n 0 FU σ (fun k => k) (by omega) (by rw [FU_eq]; omega) hv ⟨fun k h => by omega, fun k h => by omega, fun i k _ h => by omega⟩ (fun k h => by omega)
  refine ⟨σ', q', ?_, z2, z3, z4⟩
  unfold s_X2_fillInOrder
  rw [omg_t ⟨ha, hc⟩]
  have z1' : l_X2_fillInOrder_2 a c FU 0 σ = some σ' := z1
  rw [z1']
  rfl
