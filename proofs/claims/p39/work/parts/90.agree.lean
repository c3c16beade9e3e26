/-! ===== p39: the events' plan is the one of priorities ===== -/
theorem om_agree {v n : Nat} {p d w r f s : Nat → Int} {q : Nat → Nat} (hok : omOk n p d w r f s) (hq : omSq n q) (hcons : ∀ (t i k : Nat), i < n → k < n → omCh n (omGk v d (omUs v n p d r t)) r (omUs v n p d r t) (t : Int) (q i) → omOn r (omUs v n p d r t) (t : Int) (q k) → i ≤ k) : ∀ t j, j < n → omUs v n p d r t j = omRb n p r q t j := by
  obtain ⟨g1, g2, g3⟩ := omSs_perm hq
  intro t
  induction t with
  | zero => intro j hj; rw [omRb_0 hok hq hj]; rfl
  | succ t ih =>
    have hon : ∀ j, j < n → (omOn r (omUs v n p d r t) (t : Int) j ↔ omOn r (omRb n p r q t) (t : Int) j) := fun j hj => by
      unfold omOn
      rw [ih j hj]
    intro j hj
    rcases omRb_step hok hq t with ⟨h1, h2⟩ | ⟨k, hk, h1, hno, h2⟩
    · rw [omUs_idle (fun i hi h => h1 i hi ((hon i hi).mp h)), h2 j hj]
      exact ih j hj
    · rcases omUs_step (v := v) (n := n) (p := p) (d := d) (r := r) t with ⟨h3, _⟩ | ⟨x, hx, h3⟩
      · exact absurd ((hon _ (g1 k hk)).mpr h1) (h3 _ (g1 k hk))
      · obtain ⟨i, hi, rfl⟩ := g3 x hx.1
        have h4 := hcons t i k hi hk hx ((hon _ (g1 k hk)).mpr h1)
        have h5 : ¬ i < k := fun hlt => hno i hlt ((hon _ (g1 i hi)).mp hx.2.1)
        have : i = k := by omega
        subst this
        rw [h3, h2 j hj]
        by_cases he : j = q i
        · subst he
          rw [omUp_s, if_pos rfl, ih _ hj]
        · rw [omUp_n he, if_neg he, ih j hj]; omega
theorem om_agree_end {v n : Nat} {p d w r f s : Nat → Int} {q : Nat → Nat} (hok : omOk n p d w r f s) (hq : omSq n q) (h : ∀ t j, j < n → omUs v n p d r t j = omRb n p r q t j) : ∀ k, k < n → (omEs v n p d r 20).2.2 (q k) = ((omTe n p r (omSs q k) (q k) : Nat) : Int) := by
  intro k hk
  have hqk := (hq k hk).1
  have h1 : ∀ t : Nat, (omEs v n p d r 20).2.2 (q k) ≤ (t : Int) ↔ omTe n p r (omSs q k) (q k) ≤ t := fun t => by
    rw [← omEs_end hok _ hqk t, h t _ hqk]
    exact omRb_done hok hq hk
  obtain ⟨t1, t2, t3, t4⟩ := omTe_ok (S := omSs q k) hok hqk
  have hr := hok.2.1 _ hqk
  have h2 := (h1 (omTe n p r (omSs q k) (q k))).mpr (Nat.le_refl _)
  have h3 := h1 ((omEs v n p d r 20).2.2 (q k)).toNat
  have h4 := h1 0
  omega
theorem om_agree_dates {n : Nat} {p d w r f s : Nat → Int} {q : Nat → Nat} (hok : omOk n p d w r f s) (hq : omSt (omBk d) n q) : ∀ k, k < n → (omEs 0 n p d r 20).2.2 (q k) = ((omTe n p r (omSs q k) (q k) : Nat) : Int) := by
  have hinj := fun i k (hi : i < n) (hk : k < n) => omSt.inj (omBk_so n d) hq hi hk
  have hsq : omSq n q := omSq_of hq.1 hinj
  refine om_agree_end hok hsq (om_agree hok hsq (fun t i k hi hk hch hon => ?_))
  apply Classical.byContradiction
  intro hlt
  have h1 := hq.2.2 k i (by omega) hi
  have hne : q k ≠ q i := fun e => by
    have := hinj k i hk hi e
    omega
  have h2 := hch.2.2 (q k) (hq.1 k hk) hon hne
  exact (omBk_so n d).asym (hq.1 k hk) (hq.1 i hi) h1 h2
/-- in one unit of time one job is worked on -/
theorem omUs_two {v n t i j : Nat} {p d r : Nat → Int} (hne : i ≠ j) (hi : omUs v n p d r (t + 1) i < omUs v n p d r t i) (hj : omUs v n p d r (t + 1) j < omUs v n p d r t j) : False := by
  rcases omUs_step (v := v) (n := n) (p := p) (d := d) (r := r) t with ⟨_, h⟩ | ⟨x, hx, h⟩
  · rw [h] at hi; omega
  · rw [h] at hi hj
    by_cases h1 : i = x
    · have h2 : j ≠ x := fun e => hne (h1.trans e.symm)
      rw [omUp_n h2] at hj
      omega
    · rw [omUp_n h1] at hi
      omega
theorem omEs_pos {v n j : Nat} {p d w r f s : Nat → Int} (hok : omOk n p d w r f s) (hj : j < n) : 1 ≤ (omEs v n p d r 20).2.2 j := by
  have h1 := omEs_end (v := v) hok j hj 0
  have h2 := hok.2.1 j hj
  have h3 : omUs v n p d r 0 j = p j := rfl
  omega
theorem omEs_ne {v n i j : Nat} {p d w r f s : Nat → Int} (hok : omOk n p d w r f s) (hi : i < n) (hj : j < n) (hne : i ≠ j) : (omEs v n p d r 20).2.2 i ≠ (omEs v n p d r 20).2.2 j := by
  intro he
  have h0 := omEs_pos (v := v) hok hj
  obtain ⟨c, hc⟩ : ∃ c : Nat, (omEs v n p d r 20).2.2 j = ((c + 1 : Nat) : Int) := ⟨((omEs v n p d r 20).2.2 j).toNat - 1, by omega⟩
  have a1 := omEs_end (v := v) hok j hj c
  have a2 := omEs_end (v := v) hok j hj (c + 1)
  have b1 := omEs_end (v := v) hok i hi c
  have b2 := omEs_end (v := v) hok i hi (c + 1)
  have a3 := omUs_pos (v := v) hok c j hj
  have b3 := omUs_pos (v := v) hok c i hi
  refine omUs_two (v := v) (n := n) (p := p) (d := d) (r := r) (t := c) hne ?_ ?_
  · have : omUs v n p d r (c + 1) i = 0 := b2.mpr (by omega)
    have : omUs v n p d r c i ≠ 0 := fun h => by have := b1.mp h; omega
    omega
  · have : omUs v n p d r (c + 1) j = 0 := a2.mpr (by omega)
    have : omUs v n p d r c j ≠ 0 := fun h => by have := a1.mp h; omega
    omega
/-- the one with the least left goes on ahead of the others -/
theorem omUs_keep {n t i j : Nat} {p d w r f s : Nat → Int} (hok : omOk n p d w r f s) (hi : i < n) (hj : j < n) (hne : i ≠ j) (hr : r j ≤ (t : Int)) (hb : omBk (omUs 1 n p d r t) j i) (h0 : 0 < omUs 1 n p d r t i) : ∀ x : Nat, 0 < omUs 1 n p d r (t + x) j → omBk (omUs 1 n p d r (t + x)) j i ∧ 0 < omUs 1 n p d r (t + x) i := by
  intro x
  induction x with
  | zero => intro _; exact ⟨hb, h0⟩
  | succ x ih =>
    intro hx
    have h1 : omUs 1 n p d r (t + x + 1) j ≤ omUs 1 n p d r (t + x) j := omUs_one
    have hx' : 0 < omUs 1 n p d r (t + x + 1) j := hx
    obtain ⟨h2, h3⟩ := ih (by omega)
    show omBk (omUs 1 n p d r (t + x + 1)) j i ∧ 0 < omUs 1 n p d r (t + x + 1) i
    rcases omUs_step (v := 1) (n := n) (p := p) (d := d) (r := r) (t + x) with ⟨_, h⟩ | ⟨y, hy, h⟩
    · rw [h]; exact ⟨h2, h3⟩
    · have hg : omGk 1 d (omUs 1 n p d r (t + x)) = omUs 1 n p d r (t + x) := if_neg (by decide)
      rw [hg] at hy
      have hyi : y ≠ i := fun e => by
        subst e
        have h4 := hy.2.2 j hj ⟨by omega, by omega⟩ (fun e => hne e.symm)
        exact (omBk_so n (omUs 1 n p d r (t + x))).asym hj hi h2 h4
      rw [h]
      by_cases hyj : y = j
      · subst hyj
        unfold omBk at h2 ⊢
        rw [omUp_s, omUp_n hne]
        exact ⟨by omega, h3⟩
      · unfold omBk at h2 ⊢
        rw [omUp_n (fun e => hyj e.symm), omUp_n (fun e => hyi e.symm)]
        exact ⟨h2, h3⟩
theorem om_sort_ex {n : Nat} {b : Nat → Nat → Prop} (hb : omSO n b) : ∃ q, omSt b n q := by
  have h1 : ∀ j, j < n → (omRk n b j).toNat < n := fun j hj => by have := omRk_n hb hj; omega
  have h2 : ∀ i k, i < n → k < n → (omRk n b i).toNat = (omRk n b k).toNat → i = k := fun i k hi hk he => Classical.byContradiction (fun hne => by
    have a := omRk_n hb hi
    have c := omRk_n hb hk
    exact omRk_ne hb hi hk hne (by omega))
  have h3 := om_inj_onto h1 h2
  have h4 : ∀ k : Nat, ∃ j : Nat, k < n → j < n ∧ (omRk n b j).toNat = k := fun k => by
    by_cases hk : k < n
    · obtain ⟨j, hj, e⟩ := h3 k hk
      exact ⟨j, fun _ => ⟨hj, e⟩⟩
    · exact ⟨0, fun h => absurd h hk⟩
  obtain ⟨q, hq⟩ := Classical.axiomOfChoice h4
  refine ⟨q, fun k hk => (hq k hk).1, fun j hj => ⟨(omRk n b j).toNat, h1 j hj, ?_⟩, fun i k hik hk => ?_⟩
  · obtain ⟨a, c⟩ := hq _ (h1 j hj)
    exact h2 _ _ a hj c
  · obtain ⟨a1, a2⟩ := hq i (by omega)
    obtain ⟨c1, c2⟩ := hq k hk
    have hne : q i ≠ q k := fun e => by rw [e] at a2; omega
    rcases hb.2.2 _ _ a1 c1 hne with h | h
    · exact h
    · have := omRk_lt hb c1 a1 h
      have u1 := omRk_n hb a1
      have u2 := omRk_n hb c1
      omega
/-- shortest remaining: the plan is that of the priorities by its ends -/
theorem om_agree_short {n : Nat} {p d w r f s : Nat → Int} (hok : omOk n p d w r f s) : ∃ q, omSq n q ∧ ∀ k, k < n → (omEs 1 n p d r 20).2.2 (q k) = ((omTe n p r (omSs q k) (q k) : Nat) : Int) := by
  have hb : omSO n (fun i j => (omEs 1 n p d r 20).2.2 i < (omEs 1 n p d r 20).2.2 j) := ⟨fun i _ h => Int.lt_irrefl _ h, fun i j k _ _ _ h1 h2 => Int.lt_trans h1 h2, fun i j hi hj hne => by
    have := omEs_ne (v := 1) hok hi hj hne
    omega⟩
  obtain ⟨q, hq⟩ := om_sort_ex hb
  have hinj := fun i k (hi : i < n) (hk : k < n) => omSt.inj hb hq hi hk
  have hsq : omSq n q := omSq_of hq.1 hinj
  refine ⟨q, hsq, om_agree_end hok hsq (om_agree hok hsq (fun t i k hi hk hch hon => ?_))⟩
  apply Classical.byContradiction
  intro hlt
  have h1 : (omEs 1 n p d r 20).2.2 (q k) < (omEs 1 n p d r 20).2.2 (q i) := hq.2.2 k i (by omega) hi
  have hne : q k ≠ q i := fun e => by
    have := hinj k i hk hi e
    omega
  have hg : omGk 1 d (omUs 1 n p d r t) = omUs 1 n p d r t := if_neg (by decide)
  rw [hg] at hch
  have hqi := hq.1 i hi
  have hqk := hq.1 k hk
  have h2 := hch.2.2 (q k) hqk hon hne
  obtain ⟨c2, c3⟩ := hch.2.1
  have h0 := omEs_pos (v := 1) hok hqi
  obtain ⟨c, hc⟩ : ∃ c : Nat, (omEs 1 n p d r 20).2.2 (q i) = ((c + 1 : Nat) : Int) := ⟨((omEs 1 n p d r 20).2.2 (q i)).toNat - 1, by omega⟩
  have a1 := omEs_end (v := 1) hok _ hqi c
  have a2 := omEs_end (v := 1) hok _ hqi t
  have b1 := omEs_end (v := 1) hok _ hqk c
  have a3 := omUs_pos (v := 1) hok c _ hqi
  have htc : t ≤ c := by
    apply Classical.byContradiction
    intro h
    have : omUs 1 n p d r t (q i) = 0 := a2.mpr (by omega)
    omega
  have hnz : omUs 1 n p d r c (q i) ≠ 0 := fun h => by have := a1.mp h; omega
  have hk2 := omUs_keep hok hqk hqi hne c3 h2 hon.1 (c - t)
  rw [show t + (c - t) = c by omega] at hk2
  obtain ⟨_, h3⟩ := hk2 (by omega)
  have : omUs 1 n p d r c (q k) = 0 := b1.mpr (by omega)
  omega
