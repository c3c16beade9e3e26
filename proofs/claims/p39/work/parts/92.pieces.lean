/-! ===== p39: the pieces of the plans (the last piece first) ===== -/
/-- the family of the last job's piece -/
def omAf (f : Nat → Int) : List omPc → Int
  | [] => -1
  | x :: T => if x.1 = 0 then f x.2.1.toNat else omAf f T
/-- how long a job is worked on, and when last -/
def omSm (j : Int) : List omPc → Int
  | [] => 0
  | x :: T => omSm j T + (if x.1 = 0 ∧ x.2.1 = j then x.2.2 - omNow T else 0)
def omLa (j : Int) : List omPc → Int
  | [] => 0
  | x :: T => if x.1 = 0 ∧ x.2.1 = j then x.2.2 else omLa j T
/-- a piece behind the pieces ahead of it, by a rule -/
def omG1 (u n : Nat) (r f s : Nat → Int) (x : omPc) (T : List omPc) : Prop := omNow T < x.2.2 ∧ (x.1 = 0 ∨ x.1 = 1 ∨ x.1 = 2) ∧ (x.1 = 0 → 0 ≤ x.2.1 ∧ x.2.1 < n ∧ (u < 5 ∨ r x.2.1.toNat ≤ omNow T) ∧ (u ≠ 4 ∨ f x.2.1.toNat = omAf f T ∨ s (f x.2.1.toNat).toNat = 0 ∨ ∃ y T', T = y :: T' ∧ y.1 = 1)) ∧ (x.1 = 1 → u = 4 ∧ 0 ≤ x.2.1 ∧ x.2.1 < 4 ∧ x.2.2 - omNow T = s x.2.1.toNat ∧ x.2.1 ≠ omAf f T) ∧ (x.1 = 2 → 4 < u ∧ x.2.1 = -1) ∧ ∀ y T', T = y :: T' → y.1 = 1 → x.1 = 0 ∧ f x.2.1.toNat = y.2.1
def omGp (u n : Nat) (r f s : Nat → Int) : List omPc → Prop
  | [] => True
  | x :: T => omG1 u n r f s x T ∧ omGp u n r f s T
theorem omAdd_new {P : List omPc} {e : omPc} (h : 0 < e.2.2) (hne : ∀ x T, P = x :: T → ¬ (x.1 = e.1 ∧ x.2.1 = e.2.1)) : omAdd P e = (e.1, e.2.1, omNow P + e.2.2) :: P := by
  cases P with
  | nil =>
    show (if 0 < e.2.2 then [e] else []) = [(e.1, e.2.1, (0 : Int) + e.2.2)]
    rw [if_pos h, Int.zero_add]
  | cons x T =>
    show (if x.1 = e.1 ∧ x.2.1 = e.2.1 then _ else if 0 < e.2.2 then (e.1, e.2.1, x.2.2 + e.2.2) :: x :: T else x :: T) = _
    rw [if_neg (hne x T rfl), if_pos h]
    rfl
theorem omAdd_zero {P : List omPc} {e : omPc} (h : e.2.2 = 0) (hne : ∀ x T, P = x :: T → ¬ (x.1 = e.1 ∧ x.2.1 = e.2.1)) : omAdd P e = P := by
  cases P with
  | nil =>
    show (if 0 < e.2.2 then [e] else []) = []
    rw [if_neg (by omega)]
  | cons x T =>
    show (if x.1 = e.1 ∧ x.2.1 = e.2.1 then _ else if 0 < e.2.2 then (e.1, e.2.1, x.2.2 + e.2.2) :: x :: T else x :: T) = _
    rw [if_neg (hne x T rfl), if_neg (by omega)]
theorem omAdd_grow {x : omPc} {T : List omPc} {e : omPc} (h : x.1 = e.1 ∧ x.2.1 = e.2.1) : omAdd (x :: T) e = (x.1, x.2.1, x.2.2 + e.2.2) :: T := if_pos h
/-- the pieces of a sequence in a row -/
theorem omPl0_gp {u n : Nat} {p d w r f s : Nat → Int} {q : Nat → Nat} (hok : omOk n p d w r f s) (hu : u < 4) (hq : ∀ i, i < n → q i < n) (hinj : ∀ i k, i < n → k < n → q i = q k → i = k) : ∀ k, k ≤ n → omGp u n r f s (omPl 0 p f s q k).1 ∧ (∀ x T, (omPl 0 p f s q k).1 = x :: T → x.1 = 0 ∧ ∃ i, i + 1 = k ∧ x.2.1 = (q i : Int)) ∧ (∀ i, i < k → omSm (q i : Int) (omPl 0 p f s q k).1 = p (q i) ∧ omLa (q i : Int) (omPl 0 p f s q k).1 = omEd 0 p f s q i) ∧ ∀ i, k ≤ i → i < n → omSm (q i : Int) (omPl 0 p f s q k).1 = 0 := by
  intro k
  induction k with
  | zero => intro _; exact ⟨trivial, fun x T h => (by cases h), fun i hi => by omega, fun i _ _ => rfl⟩
  | succ k ih =>
    intro hk
    obtain ⟨h1, h2, h3, h4⟩ := ih (by omega)
    have hqk := hq k (by omega)
    have hp := hok.2.1 _ hqk
    have e0 : (omPl 0 p f s q (k + 1)).1 = omAdd (omPl 0 p f s q k).1 (0, (q k : Int), p (q k)) := by
      show omAdd (if (0 : Nat) = 0 then (omPl 0 p f s q k).1 else _) _ = _
      rw [if_pos rfl]
    have hne : ∀ x T, (omPl 0 p f s q k).1 = x :: T → ¬ (x.1 = (0 : Int) ∧ x.2.1 = (q k : Int)) := fun x T he hh => by
      obtain ⟨_, i, hi, hx⟩ := h2 x T he
      have := hinj i k (by omega) (by omega) (by omega)
      omega
    have hnew := omAdd_new (P := (omPl 0 p f s q k).1) (e := (0, (q k : Int), p (q k))) (by show 0 < p (q k); omega) hne
    have hE : omEd 0 p f s q k = omNow (omPl 0 p f s q k).1 + p (q k) := by
      show omNow (omPl 0 p f s q (k + 1)).1 = _
      rw [e0, hnew]
      rfl
    rw [e0, hnew]
    generalize (omPl 0 p f s q k).1 = P at h1 h2 h3 h4 hne hE
    refine ⟨⟨⟨by show omNow P < omNow P + p (q k); omega, Or.inl rfl, fun _ => ⟨by show (0 : Int) ≤ (q k : Int); omega, by show (q k : Int) < n; omega, Or.inl (by omega), Or.inl (by omega)⟩, fun h => absurd h (show ¬ (0 : Int) = 1 by decide), fun h => absurd h (show ¬ (0 : Int) = 2 by decide), fun y T' he hy => ?_⟩, h1⟩, fun x T he => ?_, fun i hi => ?_, fun i hi hin => ?_⟩
    · have := (h2 y T' he).1
      omega
    · cases he
      exact ⟨rfl, k, rfl, rfl⟩
    · by_cases hik : i = k
      · subst hik
        constructor
        · show omSm (q i : Int) P + (if (0 : Int) = 0 ∧ (q i : Int) = (q i : Int) then omNow P + p (q i) - omNow P else 0) = _
          rw [if_pos ⟨rfl, rfl⟩, h4 i (Nat.le_refl _) (by omega)]
          omega
        · show (if (0 : Int) = 0 ∧ (q i : Int) = (q i : Int) then omNow P + p (q i) else _) = _
          rw [if_pos ⟨rfl, rfl⟩, hE]
      · have hne2 : ¬ ((0 : Int) = 0 ∧ (q k : Int) = (q i : Int)) := fun h => by
          have := hinj i k (by omega) (by omega) (by omega)
          omega
        obtain ⟨a1, a2⟩ := h3 i (by omega)
        constructor
        · show omSm (q i : Int) P + (if (0 : Int) = 0 ∧ (q k : Int) = (q i : Int) then omNow P + p (q k) - omNow P else 0) = _
          rw [if_neg hne2, a1]
          omega
        · show (if (0 : Int) = 0 ∧ (q k : Int) = (q i : Int) then omNow P + p (q k) else omLa (q i : Int) P) = _
          rw [if_neg hne2, a2]
    · have hne2 : ¬ ((0 : Int) = 0 ∧ (q k : Int) = (q i : Int)) := fun h => by
        have := hinj i k (by omega) (by omega) (by omega)
        omega
      show omSm (q i : Int) P + (if (0 : Int) = 0 ∧ (q k : Int) = (q i : Int) then omNow P + p (q k) - omNow P else 0) = _
      rw [if_neg hne2, h4 i (by omega) hin]
      rfl
/-- .. with setups -/
theorem omPl1_gp {n : Nat} {p d w r f s : Nat → Int} {q : Nat → Nat} (hok : omOk n p d w r f s) (hq : ∀ i, i < n → q i < n) (hinj : ∀ i k, i < n → k < n → q i = q k → i = k) : ∀ k, k ≤ n → omGp 4 n r f s (omPl 1 p f s q k).1 ∧ (∀ x T, (omPl 1 p f s q k).1 = x :: T → x.1 = 0 ∧ ∃ i, i + 1 = k ∧ x.2.1 = (q i : Int)) ∧ ((∀ i, i < k → omSm (q i : Int) (omPl 1 p f s q k).1 = p (q i) ∧ omLa (q i : Int) (omPl 1 p f s q k).1 = omEd 1 p f s q i) ∧ ∀ i, k ≤ i → i < n → omSm (q i : Int) (omPl 1 p f s q k).1 = 0) ∧ ((k = 0 ∧ (omPl 1 p f s q k).2 = 4 ∧ omAf f (omPl 1 p f s q k).1 = -1) ∨ ((omPl 1 p f s q k).2 = omAf f (omPl 1 p f s q k).1)) := by
  intro k
  induction k with
  | zero => intro _; exact ⟨trivial, fun x T h => (by cases h), ⟨fun i hi => by omega, fun i _ _ => rfl⟩, Or.inl ⟨rfl, rfl, rfl⟩⟩
  | succ k ih =>
    intro hk
    obtain ⟨h1, h2, ⟨h3, h4⟩, h5⟩ := ih (by omega)
    have hqk := hq k (by omega)
    have hp := hok.2.1 _ hqk
    have hsu := omSu_rng hok hqk (omPl 1 p f s q k).2
    have e0 : (omPl 1 p f s q (k + 1)).1 = omAdd (omAdd (omPl 1 p f s q k).1 (1, f (q k), omSu f s (omPl 1 p f s q k).2 (q k))) (0, (q k : Int), p (q k)) := by
      show omAdd (if (1 : Nat) = 0 then (omPl 1 p f s q k).1 else _) _ = _
      rw [if_neg (by decide)]
    have hU : (omPl 1 p f s q (k + 1)).2 = f (q k) := omPl1_fam
    have hEd : omEd 1 p f s q k = omNow (omPl 1 p f s q (k + 1)).1 := rfl
    rw [hU, e0]
    rw [e0] at hEd
    generalize hu : (omPl 1 p f s q k).2 = u at h5 hsu hEd
    generalize (omPl 1 p f s q k).1 = P at h1 h2 h3 h4 h5 hEd
    have hne1 : ∀ x T, P = x :: T → ¬ (x.1 = (1 : Int) ∧ x.2.1 = f (q k)) := fun x T he hh => by
      have := (h2 x T he).1
      omega
    have hne0 : ∀ x T, P = x :: T → ¬ (x.1 = (0 : Int) ∧ x.2.1 = (q k : Int)) := fun x T he hh => by
      obtain ⟨_, i, hi, hx⟩ := h2 x T he
      have := hinj i k (by omega) (by omega) (by omega)
      omega
    -- the pieces behind the setup, if there is one
    obtain ⟨Q, hQ, g1, g2, g3, g4, g5⟩ : ∃ Q, omAdd P (1, f (q k), omSu f s u (q k)) = Q ∧ omGp 4 n r f s Q ∧ (∀ x T, Q = x :: T → ¬ (x.1 = (0 : Int) ∧ x.2.1 = (q k : Int))) ∧ (∀ j, omSm j Q = omSm j P ∧ omLa j Q = omLa j P) ∧ (f (q k) = omAf f Q ∨ s (f (q k)).toNat = 0 ∨ ∃ y T', Q = y :: T' ∧ y.1 = 1) ∧ ∀ y T', Q = y :: T' → y.1 = 1 → f (q k) = y.2.1 := by
      by_cases hz : omSu f s u (q k) = 0
      · refine ⟨P, omAdd_zero hz hne1, h1, hne0, fun j => ⟨rfl, rfl⟩, ?_, fun y T' he hy => ?_⟩
        · unfold omSu at hz
          by_cases hf : f (q k) = u
          · rcases h5 with ⟨_, h6, _⟩ | h6
            · omega
            · exact Or.inl (by omega)
          · rw [if_neg hf] at hz
            exact Or.inr (Or.inl hz)
        · have := (h2 y T' he).1
          omega
      · have hpos : 0 < omSu f s u (q k) := by omega
        have hsv : omSu f s u (q k) = s (f (q k)).toNat := by
          unfold omSu at hz ⊢
          by_cases hf : f (q k) = u
          · rw [if_pos hf] at hz; exact absurd rfl hz
          · rw [if_neg hf]
        have hfu : f (q k) ≠ u := fun h => hz (by unfold omSu; rw [if_pos h])
        refine ⟨_, omAdd_new hpos hne1, ⟨⟨by show omNow P < omNow P + omSu f s u (q k); omega, Or.inr (Or.inl rfl), fun h => absurd h (show ¬ (1 : Int) = 0 by decide), fun _ => ⟨rfl, by show 0 ≤ f (q k); omega, by show f (q k) < 4; omega, ?_, ?_⟩, fun h => absurd h (show ¬ (1 : Int) = 2 by decide), fun y T' he hy => ?_⟩, h1⟩, fun x T he => ?_, fun j => ⟨?_, ?_⟩, Or.inr (Or.inr ⟨_, _, rfl, rfl⟩), fun y T' he hy => ?_⟩
        · show omNow P + omSu f s u (q k) - omNow P = s (f (q k)).toNat
          rw [hsv]; omega
        · show f (q k) ≠ omAf f P
          rcases h5 with ⟨_, _, h6⟩ | h6
          · omega
          · omega
        · have := (h2 y T' he).1
          omega
        · cases he
          exact fun h => absurd h.1 (show ¬ (1 : Int) = 0 by decide)
        · show omSm j P + (if (1 : Int) = 0 ∧ f (q k) = j then _ else 0) = _
          rw [if_neg (fun h => absurd h.1 (by decide))]
          omega
        · show (if (1 : Int) = 0 ∧ f (q k) = j then _ else omLa j P) = _
          rw [if_neg (fun h => absurd h.1 (by decide))]
        · cases he
          rfl
    rw [hQ] at hEd ⊢
    have hnew := omAdd_new (P := Q) (e := (0, (q k : Int), p (q k))) (by show 0 < p (q k); omega) g2
    rw [hnew] at hEd ⊢
    refine ⟨⟨⟨by show omNow Q < omNow Q + p (q k); omega, Or.inl rfl, fun _ => ⟨by show (0 : Int) ≤ (q k : Int); omega, by show (q k : Int) < n; omega, Or.inl (by decide), Or.inr ?_⟩, fun h => absurd h (show ¬ (0 : Int) = 1 by decide), fun h => absurd h (show ¬ (0 : Int) = 2 by decide), fun y T' he hy => ⟨rfl, ?_⟩⟩, g1⟩, fun x T he => ?_, ⟨fun i hi => ?_, fun i hi hin => ?_⟩, Or.inr ?_⟩
    · show f ((q k : Int)).toNat = omAf f Q ∨ s (f ((q k : Int)).toNat).toNat = 0 ∨ _
      rw [Int.toNat_natCast]
      exact g4
    · show f ((q k : Int)).toNat = y.2.1
      rw [Int.toNat_natCast]
      exact g5 y T' he hy
    · cases he
      exact ⟨rfl, k, rfl, rfl⟩
    · by_cases hik : i = k
      · subst hik
        constructor
        · show omSm (q i : Int) Q + (if (0 : Int) = 0 ∧ (q i : Int) = (q i : Int) then omNow Q + p (q i) - omNow Q else 0) = _
          rw [if_pos ⟨rfl, rfl⟩, (g3 _).1, h4 i (Nat.le_refl _) (by omega)]
          omega
        · show (if (0 : Int) = 0 ∧ (q i : Int) = (q i : Int) then omNow Q + p (q i) else _) = _
          rw [if_pos ⟨rfl, rfl⟩, hEd]
          rfl
      · have hne2 : ¬ ((0 : Int) = 0 ∧ (q k : Int) = (q i : Int)) := fun h => by
          have := hinj i k (by omega) (by omega) (by omega)
          omega
        obtain ⟨a1, a2⟩ := h3 i (by omega)
        constructor
        · show omSm (q i : Int) Q + (if (0 : Int) = 0 ∧ (q k : Int) = (q i : Int) then omNow Q + p (q k) - omNow Q else 0) = _
          rw [if_neg hne2, (g3 _).1, a1]
          omega
        · show (if (0 : Int) = 0 ∧ (q k : Int) = (q i : Int) then omNow Q + p (q k) else omLa (q i : Int) Q) = _
          rw [if_neg hne2, (g3 _).2, a2]
    · have hne2 : ¬ ((0 : Int) = 0 ∧ (q k : Int) = (q i : Int)) := fun h => by
        have := hinj i k (by omega) (by omega) (by omega)
        omega
      show omSm (q i : Int) Q + (if (0 : Int) = 0 ∧ (q k : Int) = (q i : Int) then omNow Q + p (q k) - omNow Q else 0) = _
      rw [if_neg hne2, (g3 _).1, h4 i (by omega) hin]
      rfl
    · show f (q k) = (if (0 : Int) = 0 then f ((q k : Int)).toNat else _)
      rw [if_pos rfl, Int.toNat_natCast]
/-- .. with preemption -/
theorem omEs_gp {u v n : Nat} {p d w r f s : Nat → Int} (hok : omOk n p d w r f s) (hu : 4 < u) : ∀ k, omGp u n r f s (omEs v n p d r k).1 ∧ (∀ x T, (omEs v n p d r k).1 = x :: T → x.1 ≠ 1) ∧ ∀ j, j < n → omSm (j : Int) (omEs v n p d r k).1 = p j - (omEs v n p d r k).2.1 j ∧ ((omEs v n p d r k).2.1 j < p j → omLa (j : Int) (omEs v n p d r k).1 = (omEs v n p d r k).2.2 j) := by
  intro k
  induction k with
  | zero =>
    refine ⟨trivial, fun x T h => (by cases h), fun j hj => ⟨?_, fun h => absurd h (Int.lt_irrefl _)⟩⟩
    show (0 : Int) = p j - p j
    omega
  | succ k ih =>
    obtain ⟨h1, h2, h3⟩ := ih
    have hE := omEs_ok (v := v) hok k
    have e : omEs v n p d r (k + 1) = omEv v n d r (omEs v n p d r k) := rfl
    rw [e]
    generalize omEs v n p d r k = X at h1 h2 h3 hE
    rcases om_dec (n := n) (r := r) (R := X.2.1) (t := omNow X.1) with h | h
    · obtain ⟨j, hj⟩ := omCh_ex (v := v) (d := d) h
      have hd := omDt_rng hok hE hj
      have hrel := hj.2.1.2
      have hjn := hj.1
      rw [omEv_job hj]
      generalize omDt n j r X = D at hd
      obtain ⟨P, R, C⟩ := X
      have hRr := hE.2.2.1
      have hRj := hRr j hjn
      have hRj' : 0 ≤ R j ∧ R j ≤ p j := hRj
      have hd' : 1 ≤ D ∧ D ≤ R j := ⟨hd.1, hd.2.1⟩
      have h3' : ∀ i, i < n → omSm (i : Int) P = p i - R i ∧ (R i < p i → omLa (i : Int) P = C i) := h3
      have hrel' : r j ≤ omNow P := hrel
      show omGp u n r f s (omAdd P (0, (j : Int), D)) ∧ (∀ x T, omAdd P (0, (j : Int), D) = x :: T → x.1 ≠ 1) ∧ ∀ i, i < n → omSm (i : Int) (omAdd P (0, (j : Int), D)) = p i - omUp R j (R j - D) i ∧ (omUp R j (R j - D) i < p i → omLa (i : Int) (omAdd P (0, (j : Int), D)) = omUp C j (omNow P + D) i)
      by_cases hg : ∃ x T, P = x :: T ∧ x.1 = (0 : Int) ∧ x.2.1 = (j : Int)
      · obtain ⟨x, T, rfl, hx1, hx2⟩ := hg
        rw [omAdd_grow ⟨hx1, hx2⟩]
        obtain ⟨⟨a1, a2, a3, a4, a5, a6⟩, h1'⟩ := h1
        refine ⟨⟨⟨by show omNow T < x.2.2 + D; omega, a2, a3, fun h => absurd (show x.1 = 1 from h) (by omega), a5, a6⟩, h1'⟩, fun y T' he => ?_, fun i hi => ?_⟩
        · cases he
          show x.1 ≠ 1
          omega
        · obtain ⟨b1, b2⟩ := h3' i hi
          by_cases hij : i = j
          · subst hij
            rw [omUp_s, omUp_s]
            have b1' : omSm (i : Int) T + (if x.1 = 0 ∧ x.2.1 = (i : Int) then x.2.2 - omNow T else 0) = p i - R i := b1
            rw [if_pos ⟨hx1, hx2⟩] at b1'
            constructor
            · show omSm (i : Int) T + (if x.1 = 0 ∧ x.2.1 = (i : Int) then x.2.2 + D - omNow T else 0) = _
              rw [if_pos ⟨hx1, hx2⟩]
              omega
            · intro _
              show (if x.1 = 0 ∧ x.2.1 = (i : Int) then x.2.2 + D else _) = omNow (x :: T) + D
              rw [if_pos ⟨hx1, hx2⟩]
              rfl
          · rw [omUp_n hij, omUp_n hij]
            have hne : ¬ (x.1 = 0 ∧ x.2.1 = (i : Int)) := fun hh => by omega
            constructor
            · have b1' : omSm (i : Int) T + (if x.1 = 0 ∧ x.2.1 = (i : Int) then x.2.2 - omNow T else 0) = p i - R i := b1
              show omSm (i : Int) T + (if x.1 = 0 ∧ x.2.1 = (i : Int) then x.2.2 + D - omNow T else 0) = _
              rw [if_neg hne] at b1' ⊢
              exact b1'
            · intro hlt
              have b2' : (if x.1 = 0 ∧ x.2.1 = (i : Int) then x.2.2 else omLa (i : Int) T) = C i := b2 hlt
              show (if x.1 = 0 ∧ x.2.1 = (i : Int) then x.2.2 + D else omLa (i : Int) T) = _
              rw [if_neg hne] at b2' ⊢
              exact b2'
      · rw [omAdd_new (P := P) (e := (0, (j : Int), D)) (by show 0 < D; omega) (fun x T he hh => hg ⟨x, T, he, hh⟩)]
        refine ⟨⟨⟨by show omNow P < omNow P + D; omega, Or.inl rfl, fun _ => ⟨by show (0 : Int) ≤ (j : Int); omega, by show (j : Int) < n; omega, Or.inr (by show r ((j : Int)).toNat ≤ omNow P; rw [Int.toNat_natCast]; exact hrel'), Or.inl (by omega)⟩, fun h => absurd h (show ¬ (0 : Int) = 1 by decide), fun h => absurd h (show ¬ (0 : Int) = 2 by decide), fun y T' he hy => absurd hy (h2 y T' he)⟩, h1⟩, fun y T' he => ?_, fun i hi => ?_⟩
        · cases he
          show (0 : Int) ≠ 1
          decide
        · obtain ⟨b1, b2⟩ := h3' i hi
          by_cases hij : i = j
          · subst hij
            rw [omUp_s, omUp_s]
            constructor
            · show omSm (i : Int) P + (if (0 : Int) = 0 ∧ (i : Int) = (i : Int) then omNow P + D - omNow P else 0) = _
              rw [if_pos ⟨rfl, rfl⟩]
              omega
            · intro _
              show (if (0 : Int) = 0 ∧ (i : Int) = (i : Int) then omNow P + D else _) = _
              rw [if_pos ⟨rfl, rfl⟩]
          · rw [omUp_n hij, omUp_n hij]
            have hne : ¬ ((0 : Int) = 0 ∧ (j : Int) = (i : Int)) := fun hh => by omega
            constructor
            · show omSm (i : Int) P + (if (0 : Int) = 0 ∧ (j : Int) = (i : Int) then omNow P + D - omNow P else 0) = _
              rw [if_neg hne]
              omega
            · intro hlt
              show (if (0 : Int) = 0 ∧ (j : Int) = (i : Int) then omNow P + D else omLa (i : Int) P) = _
              rw [if_neg hne]
              exact b2 hlt
    · by_cases hN : omNr r (omNow X.1) n < 1000000
      · rw [omEv_idle h hN]
        have hg := omNr_gt (n := n) (t := omNow X.1) hok (by have := omEk_now hok hE; omega)
        have hD : 0 < omNr r (omNow X.1) n - omNow X.1 := by omega
        generalize omNr r (omNow X.1) n - omNow X.1 = D at hD
        obtain ⟨P, R, C⟩ := X
        have h3' : ∀ i, i < n → omSm (i : Int) P = p i - R i ∧ (R i < p i → omLa (i : Int) P = C i) := h3
        show omGp u n r f s (omAdd P (2, -1, D)) ∧ (∀ x T, omAdd P (2, -1, D) = x :: T → x.1 ≠ 1) ∧ ∀ i, i < n → omSm (i : Int) (omAdd P (2, -1, D)) = p i - R i ∧ (R i < p i → omLa (i : Int) (omAdd P (2, -1, D)) = C i)
        by_cases hg : ∃ x T, P = x :: T ∧ x.1 = (2 : Int) ∧ x.2.1 = (-1 : Int)
        · obtain ⟨x, T, rfl, hx1, hx2⟩ := hg
          rw [omAdd_grow ⟨hx1, hx2⟩]
          obtain ⟨⟨a1, a2, a3, a4, a5, a6⟩, h1'⟩ := h1
          refine ⟨⟨⟨by show omNow T < x.2.2 + D; omega, a2, a3, fun h => absurd (show x.1 = 1 from h) (by omega), a5, a6⟩, h1'⟩, fun y T' he => ?_, fun i hi => ?_⟩
          · cases he
            show x.1 ≠ 1
            omega
          · obtain ⟨b1, b2⟩ := h3' i hi
            have hne : ¬ (x.1 = 0 ∧ x.2.1 = (i : Int)) := fun hh => by omega
            constructor
            · have b1' : omSm (i : Int) T + (if x.1 = 0 ∧ x.2.1 = (i : Int) then x.2.2 - omNow T else 0) = p i - R i := b1
              show omSm (i : Int) T + (if x.1 = 0 ∧ x.2.1 = (i : Int) then x.2.2 + D - omNow T else 0) = _
              rw [if_neg hne] at b1' ⊢
              exact b1'
            · intro hlt
              have b2' : (if x.1 = 0 ∧ x.2.1 = (i : Int) then x.2.2 else omLa (i : Int) T) = C i := b2 hlt
              show (if x.1 = 0 ∧ x.2.1 = (i : Int) then x.2.2 + D else omLa (i : Int) T) = _
              rw [if_neg hne] at b2' ⊢
              exact b2'
        · rw [omAdd_new (P := P) (e := (2, -1, D)) hD (fun x T he hh => hg ⟨x, T, he, hh⟩)]
          refine ⟨⟨⟨by show omNow P < omNow P + D; omega, Or.inr (Or.inr rfl), fun h => absurd h (show ¬ (2 : Int) = 0 by decide), fun h => absurd h (show ¬ (2 : Int) = 1 by decide), fun _ => ⟨hu, rfl⟩, fun y T' he hy => absurd hy (h2 y T' he)⟩, h1⟩, fun y T' he => ?_, fun i hi => ?_⟩
          · cases he
            show (2 : Int) ≠ 1
            decide
          · obtain ⟨b1, b2⟩ := h3' i hi
            have hne : ¬ ((2 : Int) = 0 ∧ (-1 : Int) = (i : Int)) := fun hh => by omega
            constructor
            · show omSm (i : Int) P + (if (2 : Int) = 0 ∧ (-1 : Int) = (i : Int) then omNow P + D - omNow P else 0) = _
              rw [if_neg hne]
              omega
            · intro hlt
              show (if (2 : Int) = 0 ∧ (-1 : Int) = (i : Int) then omNow P + D else omLa (i : Int) P) = _
              rw [if_neg hne]
              exact b2 hlt
      · rw [omEv_end h hN]
        exact ⟨h1, h2, h3⟩
