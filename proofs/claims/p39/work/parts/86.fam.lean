/-! ===== p39: with setups: each family by due dates is no worse ===== -/
/-- what a row of jobs costs behind a family, from a time 0 on -/
def omLw (p d f s : Nat → Int) : List Nat → Int → Int
  | [], _ => -1000000
  | j :: L, u => omTk p f s u j + max (-(d j)) (omLw p d f s L (f j))
theorem omLw_cons {p d f s : Nat → Int} {j : Nat} {L : List Nat} {u : Int} : omLw p d f s (j :: L) u = omTk p f s u j + max (-(d j)) (omLw p d f s L (f j)) := rfl
theorem om_split {Q : Nat → Prop} : ∀ M : List Nat, (∃ i, i ∈ M ∧ Q i) → ∃ X i Y, M = X ++ i :: Y ∧ Q i ∧ ∀ b, b ∈ Y → ¬ Q b := by
  intro M
  induction M with
  | nil => intro ⟨i, hi, _⟩; cases hi
  | cons a M ih =>
    intro ⟨i, hi, hQ⟩
    by_cases h : ∃ i, i ∈ M ∧ Q i
    · obtain ⟨X, i, Y, h1, h2, h3⟩ := ih h
      exact ⟨a :: X, i, Y, by rw [h1]; rfl, h2, h3⟩
    · rcases List.mem_cons.mp hi with rfl | hi
      · exact ⟨[], i, M, rfl, hQ, fun b hb hq => h ⟨b, hb, hq⟩⟩
      · exact absurd ⟨i, hi, hQ⟩ h
/-- a job moved behind a later one of its family that is due no later -/
theorem om_move {n i j : Nat} {p d w r f s : Nat → Int} {Y : List Nat} (hok : omOk n p d w r f s) (hi : i < n) (hj : j < n) (hf : f i = f j) (hd : d i ≤ d j) : ∀ (X : List Nat) (u u2 δ : Int), (∀ x, x ∈ X → x < n) → (∀ x, x < n → omTk p f s u x + p j ≤ δ + omTk p f s u2 x) → omLw p d f s (X ++ i :: j :: Y) u ≤ δ + omLw p d f s (X ++ i :: Y) u2 := by
  have hpj := hok.2.1 j hj
  intro X
  induction X with
  | nil =>
    intro u u2 δ _ h
    have h1 := h i hi
    show omLw p d f s (i :: j :: Y) u ≤ δ + omLw p d f s (i :: Y) u2
    rw [omLw_cons, omLw_cons, omLw_cons, hf]
    have h2 : omTk p f s (f j) j = p j := by
      unfold omTk omSu
      rw [if_pos rfl]
      omega
    rw [h2]
    omega
  | cons x X ih =>
    intro u u2 δ hX h
    have h1 := h x (hX x List.mem_cons_self)
    have h2 := ih (f x) (f x) (p j) (fun y hy => hX y (List.mem_cons_of_mem _ hy)) (fun y _ => by omega)
    show omLw p d f s (x :: (X ++ i :: j :: Y)) u ≤ δ + omLw p d f s (x :: (X ++ i :: Y)) u2
    rw [omLw_cons, omLw_cons]
    omega
/-- in a row each family's jobs follow by due dates, and no job twice -/
def omOrd2 (d f : Nat → Int) (L : List Nat) : Prop := L.Pairwise (fun a b => a ≠ b ∧ (f a = f b → omBk d a b))
theorem om_first_gain {n j : Nat} {p d w r f s : Nat → Int} (hok : omOk n p d w r f s) (hj : j < n) (u : Int) : ∀ x, x < n → omTk p f s u x + p j ≤ omTk p f s u j + omTk p f s (f j) x := by
  intro x hx
  have h1 := omSu_rng hok hx u
  have h2 := omSu_rng hok hj u
  have h3 := omSu_rng hok hx (f j)
  unfold omTk
  by_cases hf : f x = f j
  · have e : omSu f s u x = omSu f s u j := by unfold omSu; rw [hf]
    omega
  · have e1 : omSu f s (f j) x = s (f x).toNat := by unfold omSu; rw [if_neg hf]
    have e2 : omSu f s u x ≤ s (f x).toNat := by
      by_cases hu : f x = u
      · have : omSu f s u x = 0 := by unfold omSu; rw [if_pos hu]
        omega
      · have : omSu f s u x = s (f x).toNat := by unfold omSu; rw [if_neg hu]
        omega
    omega
theorem om_sorted {n : Nat} {p d w r f s : Nat → Int} (hok : omOk n p d w r f s) : ∀ (L : List Nat) (u : Int), (∀ x, x ∈ L → x < n) → L.Pairwise (fun a b => a ≠ b) → ∃ L', (∀ b, b ∈ L' ↔ b ∈ L) ∧ omOrd2 d f L' ∧ omLw p d f s L' u ≤ omLw p d f s L u := by
  intro L
  induction L with
  | nil => intro u _ _; exact ⟨[], fun b => Iff.rfl, List.Pairwise.nil, Int.le_refl _⟩
  | cons j M ih =>
    intro u hL hN
    have hj := hL j List.mem_cons_self
    obtain ⟨hN1, hN2⟩ := List.pairwise_cons.mp hN
    obtain ⟨M', m1, m2, m3⟩ := ih (f j) (fun x hx => hL x (List.mem_cons_of_mem _ hx)) hN2
    have hM' : ∀ x, x ∈ M' → x < n ∧ j ≠ x := fun x hx => ⟨hL x (List.mem_cons_of_mem _ ((m1 x).mp hx)), hN1 x ((m1 x).mp hx)⟩
    have hstep : omLw p d f s (j :: M') u ≤ omLw p d f s (j :: M) u := by
      rw [omLw_cons, omLw_cons]
      omega
    have hso := omBk_so n d
    by_cases h : ∃ i, i ∈ M' ∧ (f i = f j ∧ omBk d i j)
    · obtain ⟨X, i, Y, h1, ⟨h2, h3⟩, h4⟩ := om_split M' h
      subst h1
      have hin : i ∈ X ++ i :: Y := List.mem_append.mpr (Or.inr List.mem_cons_self)
      obtain ⟨hi, hji⟩ := hM' i hin
      have hdi : d i ≤ d j := by unfold omBk at h3; omega
      refine ⟨X ++ i :: j :: Y, fun b => ?_, ?_, ?_⟩
      · have := m1 b
        simp only [List.mem_append, List.mem_cons] at this ⊢
        constructor
        · rintro (hb | hb | hb | hb)
          · exact Or.inr (this.mp (Or.inl hb))
          · exact Or.inr (this.mp (Or.inr (Or.inl hb)))
          · exact Or.inl hb
          · exact Or.inr (this.mp (Or.inr (Or.inr hb)))
        · rintro (hb | hb)
          · exact Or.inr (Or.inr (Or.inl hb))
          · rcases this.mpr hb with hb | hb | hb
            · exact Or.inl hb
            · exact Or.inr (Or.inl hb)
            · exact Or.inr (Or.inr (Or.inr hb))
      · obtain ⟨p1, p2, p3⟩ := List.pairwise_append.mp m2
        obtain ⟨p4, p5⟩ := List.pairwise_cons.mp p2
        refine List.pairwise_append.mpr ⟨p1, List.pairwise_cons.mpr ⟨fun b hb => ?_, List.pairwise_cons.mpr ⟨fun b hb => ?_, p5⟩⟩, fun a ha b hb => ?_⟩
        · rcases List.mem_cons.mp hb with rfl | hb
          · exact ⟨fun e => hji e.symm, fun _ => h3⟩
          · exact p4 b hb
        · have hbm : b ∈ X ++ i :: Y := List.mem_append.mpr (Or.inr (List.mem_cons_of_mem _ hb))
          obtain ⟨hb1, hb2⟩ := hM' b hbm
          refine ⟨hb2, fun hf => ?_⟩
          rcases hso.2.2 j b hj hb1 hb2 with h5 | h5
          · exact h5
          · exact absurd ⟨hf.symm, h5⟩ (h4 b hb)
        · rcases List.mem_cons.mp hb with rfl | hb
          · exact p3 a ha b List.mem_cons_self
          · rcases List.mem_cons.mp hb with rfl | hb
            · have ham : a ∈ X ++ i :: Y := List.mem_append.mpr (Or.inl ha)
              obtain ⟨ha1, ha2⟩ := hM' a ham
              refine ⟨fun e => ha2 e.symm, fun hf => ?_⟩
              have h6 := (p3 a ha i List.mem_cons_self).2 (by rw [hf, h2])
              exact hso.2.1 a i b ha1 hi hj h6 h3
            · exact p3 a ha b (List.mem_cons_of_mem _ hb)
      · have h5 := om_move (Y := Y) hok hi hj h2 hdi X u (f j) (omTk p f s u j) (fun x hx => (hM' x (List.mem_append.mpr (Or.inl hx))).1) (om_first_gain hok hj u)
        rw [omLw_cons] at hstep
        omega
    · refine ⟨j :: M', fun b => ?_, List.pairwise_cons.mpr ⟨fun b hb => ?_, m2⟩, hstep⟩
      · rw [List.mem_cons, List.mem_cons, m1]
      · obtain ⟨hb1, hb2⟩ := hM' b hb
        refine ⟨hb2, fun hf => ?_⟩
        rcases hso.2.2 j b hj hb1 hb2 with h5 | h5
        · exact h5
        · exact absurd ⟨b, hb, hf.symm, h5⟩ h
/-- the table of kept orders is below each kept order -/
theorem omKe_low {n : Nat} {p d w r f s : Nat → Int} {R : Nat → Int} (hok : omOk n p d w r f s) (hR : ∀ S u, u < 5 → S < 2 ^ n → omKs n d f S → omKe n p d f s R S u) : ∀ (L : List Nat) (S u : Nat), u < 5 → S < 2 ^ n → omKs n d f S → (∀ b, b ∈ L ↔ b < n ∧ ¬ S.testBit b = true) → omOrd2 d f L → R (5 * S + u) ≤ omLw p d f s L (u : Nat) := by
  intro L
  induction L with
  | nil =>
    intro S u hu hS hK hL _
    have h1 := (hR S u hu hS hK).1
    have h2 : ∀ j, j < n → S.testBit j = true := fun j hj => Classical.byContradiction (fun h => by
      have := (hL j).mpr ⟨hj, h⟩
      cases this)
    rw [h1, omFq_none n (fun j hj h => h.1 (h2 j hj))]
    have hz := Nat.two_pow_pos n
    have h3 : ¬ S < 2 ^ n - 1 := by
      intro hlt
      have h4 : omUn n S = 0 := omSum_zero (fun i hi => if_pos (h2 i hi))
      have := omUn_full hS h4
      omega
    unfold omUb
    rw [if_neg h3]
    exact Int.le_refl _
  | cons j M ih =>
    intro S u hu hS hK hL hO
    obtain ⟨o1, o2⟩ := List.pairwise_cons.mp hO
    obtain ⟨hj, hb⟩ := (hL j).mp List.mem_cons_self
    have hfj := hok.2.1 j hj
    have hNx : omNx n d f S j := ⟨hb, fun i hi hne hf hbi hbk => by
      have hm := (hL i).mpr ⟨hi, hbi⟩
      rcases List.mem_cons.mp hm with e | hm
      · exact hne e
      · exact (omBk_so n d).asym hj hi ((o1 i hm).2 hf.symm) hbk⟩
    have h1 := (hR S u hu hS hK).1
    have h2 := omFq_low (b := omUb n S) (P := omNx n d f S) (g := omUg p d f s R S (u : Nat)) n j hj hNx
    have h3 := ih (S ||| 2 ^ j) (f j).toNat (by omega) (om_ins_lt hS hj) (omKs_ins hK hNx) (fun b => by
      have h4 := hL b
      rw [List.mem_cons] at h4
      rw [om_ins_bit, Bool.or_eq_true, decide_eq_true_eq]
      constructor
      · intro hbM
        have h5 := h4.mp (Or.inr hbM)
        exact ⟨h5.1, fun h => by
          rcases h with h | h
          · exact h5.2 h
          · exact (o1 b hbM).1 h⟩
      · rintro ⟨h5, h6⟩
        rcases h4.mpr ⟨h5, fun h => h6 (Or.inl h)⟩ with h | h
        · exact absurd h.symm (fun e => h6 (Or.inr e))
        · exact h) o2
    have h4 : ((f j).toNat : Int) = f j := Int.toNat_of_nonneg (by omega)
    rw [h4] at h3
    rw [h1, omLw_cons]
    have h5 : omUg p d f s R S (u : Nat) j = omTk p f s (u : Nat) j + max (-(d j)) (R (5 * (S ||| 2 ^ j) + (f j).toNat)) := rfl
    omega
/-- the rest of a sequence behind so many jobs -/
def omTl (q : Nat → Nat) (n : Nat) : Nat → List Nat
  | 0 => []
  | m + 1 => q (n - (m + 1)) :: omTl q n m
theorem omTl_mem {n : Nat} {q : Nat → Nat} : ∀ m, m ≤ n → ∀ b, b ∈ omTl q n m ↔ ∃ i, n - m ≤ i ∧ i < n ∧ q i = b := by
  intro m
  induction m with
  | zero => intro _ b; exact ⟨fun h => (by cases h), fun ⟨i, h1, h2, _⟩ => by omega⟩
  | succ m ih =>
    intro hm b
    show b ∈ q (n - (m + 1)) :: omTl q n m ↔ _
    rw [List.mem_cons, ih (by omega)]
    constructor
    · rintro (h | ⟨i, h1, h2, h3⟩)
      · exact ⟨n - (m + 1), by omega, by omega, h.symm⟩
      · exact ⟨i, by omega, h2, h3⟩
    · rintro ⟨i, h1, h2, h3⟩
      by_cases he : i = n - (m + 1)
      · subst he; exact Or.inl h3.symm
      · exact Or.inr ⟨i, by omega, h2, h3⟩
theorem omTl_nd {n : Nat} {q : Nat → Nat} (hinj : ∀ i k, i < n → k < n → q i = q k → i = k) : ∀ m, m ≤ n → (omTl q n m).Pairwise (fun a b => a ≠ b) := by
  intro m
  induction m with
  | zero => intro _; exact List.Pairwise.nil
  | succ m ih =>
    intro hm
    show (q (n - (m + 1)) :: omTl q n m).Pairwise _
    refine List.pairwise_cons.mpr ⟨fun b hb he => ?_, ih (by omega)⟩
    obtain ⟨i, h1, h2, h3⟩ := (omTl_mem m (by omega) b).mp hb
    have := hinj (n - (m + 1)) i (by omega) h2 (by rw [he, h3])
    omega
abbrev omE9 (p f s : Nat → Int) : Nat → Int → Int → Nat → Int := fun _ u t j => t + omSu f s u j + p j
theorem omTi9_rng {n : Nat} {p d w r f s : Nat → Int} {q : Nat → Nat} (hok : omOk n p d w r f s) (hq : ∀ i, i < n → q i < n) : ∀ k, k ≤ n → 0 ≤ (omTi f (omE9 p f s) q k).2 ∧ (omTi f (omE9 p f s) q k).2 ≤ 50 * (k : Nat) := by
  intro k
  induction k with
  | zero => intro _; show (0 : Int) ≤ 0 ∧ (0 : Int) ≤ 50 * ((0 : Nat) : Int); omega
  | succ k ih =>
    intro hk
    have h1 := ih (by omega)
    have h2 := omSu_rng hok (hq k (by omega)) (omTi f (omE9 p f s) q k).1
    have h3 := hok.2.1 (q k) (hq k (by omega))
    show 0 ≤ (omTi f (omE9 p f s) q k).2 + omSu f s (omTi f (omE9 p f s) q k).1 (q k) + p (q k) ∧ (omTi f (omE9 p f s) q k).2 + omSu f s (omTi f (omE9 p f s) q k).1 (q k) + p (q k) ≤ _
    omega
theorem omLw_tot {n : Nat} {p d w r f s C : Nat → Int} {q : Nat → Nat} (hok : omOk n p d w r f s) (hn : 0 < n) (hq : ∀ i, i < n → q i < n) (hC : ∀ i, i < n → C (q i) = (omTi f (omE9 p f s) q (i + 1)).2) : ∀ m, m ≤ n → (omTi f (omE9 p f s) q (n - m)).2 + omLw p d f s (omTl q n m) (omTi f (omE9 p f s) q (n - m)).1 ≤ omTot n 0 d w C := by
  have hT : omTot n 0 d w C = omMx n (omCs 0 d w C) := if_pos rfl
  have hge : ∀ i, i < n → C (q i) - d (q i) ≤ omTot n 0 d w C := fun i hi => by
    have h1 : omCs 0 d w C (q i) ≤ omMx n (omCs 0 d w C) := omMx_ge (hq i hi)
    have h2 : omCs 0 d w C (q i) = C (q i) - d (q i) := if_pos rfl
    omega
  intro m
  induction m with
  | zero =>
    intro _
    have h1 := hge 0 hn
    have e0 : C (q 0) = (omTi f (omE9 p f s) q 1).2 := hC 0 hn
    rw [e0] at h1
    have h2 := omTi9_rng hok hq 1 (by omega)
    have h3 := omTi9_rng hok hq n (Nat.le_refl n)
    have h4 := hok.2.1 (q 0) (hq 0 hn)
    have h5 := hok.1
    show (omTi f (omE9 p f s) q n).2 + (-1000000) ≤ _
    omega
  | succ m ih =>
    intro hm
    have h1 := ih (by omega)
    have h2 := hge (n - (m + 1)) (by omega)
    rw [hC _ (by omega)] at h2
    have e : n - (m + 1) + 1 = n - m := by omega
    rw [e] at h2
    have e2 : (omTi f (omE9 p f s) q (n - m)).2 = (omTi f (omE9 p f s) q (n - (m + 1))).2 + omTk p f s (omTi f (omE9 p f s) q (n - (m + 1))).1 (q (n - (m + 1))) := by
      rw [← e]
      show (omTi f (omE9 p f s) q (n - (m + 1))).2 + omSu f s (omTi f (omE9 p f s) q (n - (m + 1))).1 (q (n - (m + 1))) + p (q (n - (m + 1))) = _
      unfold omTk
      omega
    have e3 : (omTi f (omE9 p f s) q (n - m)).1 = f (q (n - (m + 1))) := by
      rw [← e]
      rfl
    rw [e3] at h1
    show (omTi f (omE9 p f s) q (n - (m + 1))).2 + omLw p d f s (q (n - (m + 1)) :: omTl q n m) (omTi f (omE9 p f s) q (n - (m + 1))).1 ≤ _
    rw [omLw_cons]
    omega
theorem om_fam_low {n : Nat} {p d w r f s C : Nat → Int} {R : Nat → Int} {q : Nat → Nat} (hok : omOk n p d w r f s) (hn : 0 < n) (hR : ∀ S u, u < 5 → S < 2 ^ n → omKs n d f S → omKe n p d f s R S u) (hq : omSq n q) (hC : ∀ i, i < n → C (q i) = (omTi f (omE9 p f s) q (i + 1)).2) : R 4 ≤ omTot n 0 d w C := by
  obtain ⟨h1, h2, h3⟩ := omSs_perm hq
  have ha := omLw_tot hok hn h1 hC n (Nat.le_refl n)
  rw [Nat.sub_self] at ha
  have hm := omTl_mem (q := q) n (Nat.le_refl n)
  obtain ⟨L', l1, l2, l3⟩ := om_sorted hok (omTl q n n) 4 (fun x hx => by
    obtain ⟨i, _, hi, rfl⟩ := (hm x).mp hx
    exact h1 i hi) (omTl_nd h2 n (Nat.le_refl n))
  have hb := omKe_low hok hR L' 0 4 (by decide) (Nat.two_pow_pos n) omKs_0 (fun b => by
    rw [l1, hm]
    constructor
    · rintro ⟨i, _, hi, rfl⟩
      exact ⟨h1 i hi, by rw [Nat.zero_testBit]; decide⟩
    · rintro ⟨hbn, _⟩
      obtain ⟨i, hi, e⟩ := h3 b hbn
      exact ⟨i, by omega, hi, e⟩) l2
  have hb' : R 4 ≤ omLw p d f s L' 4 := hb
  have ha' : (0 : Int) + omLw p d f s (omTl q n n) 4 ≤ omTot n 0 d w C := ha
  omega
theorem omTi9_pl {n : Nat} {p d w r f s : Nat → Int} {q : Nat → Nat} (hok : omOk n p d w r f s) (hq : ∀ i, i < n → q i < n) : ∀ k, k ≤ n → omTi f (omE9 p f s) q k = ((omPl 1 p f s q k).2, omNow (omPl 1 p f s q k).1) := by
  intro k
  induction k with
  | zero => intro _; rfl
  | succ k ih =>
    intro hk
    have h1 := ih (by omega)
    rw [omPl1_now hok (hq k (by omega)), omPl1_fam]
    show (f (q k), (omTi f (omE9 p f s) q k).2 + omSu f s (omTi f (omE9 p f s) q k).1 (q k) + p (q k)) = _
    rw [h1]
    exact congrArg (Prod.mk (f (q k))) (by show omNow (omPl 1 p f s q k).1 + omSu f s (omPl 1 p f s q k).2 (q k) + p (q k) = _; omega)
/-- the plan of families costs what the table says, and that is the least with setups -/
theorem om_fam {n : Nat} {p d w r f s C : Nat → Int} {R : Nat → Int} {q : Nat → Nat} (hok : omOk n p d w r f s) (hn : 0 < n) (hR4 : R 4 ≤ 500) (hR : ∀ S u, u < 5 → S < 2 ^ n → omKs n d f S → omKe n p d f s R S u) (hq : ∀ i, i < n → omHf n p d f s R (R 4) (omSs q i) (omPl 1 p f s q i).2 (omNow (omPl 1 p f s q i).1) (q i)) (hC : ∀ i, i < n → C (q i) = omEd 1 p f s q i) :
    min 1000000 (omVl n 0 d w f (omE9 p f s) n 0 4 0 (omA0 0)) = omTot n 0 d w C := by
  have hsq : omSq n q := fun i hi => ⟨(hq i hi).1, (hq i hi).2.1.1.1⟩
  obtain ⟨h1, h2, h3⟩ := omSs_perm hsq
  have hC9 : ∀ i, i < n → C (q i) = (omTi f (omE9 p f s) q (i + 1)).2 := fun i hi => by
    rw [hC i hi, omTi9_pl hok h1 (i + 1) (by omega)]
    rfl
  have hlow := om_fam_low (w := w) hok hn hR hsq hC9
  have hb := (hR 0 4 (by decide) (Nat.two_pow_pos n) omKs_0).2
  have hb' : -1000000 ≤ R 4 ∧ R 4 ≤ 1000000 := hb
  have htop : omTot n 0 d w C ≤ R 4 := by
    have hT : omTot n 0 d w C = omMx n (omCs 0 d w C) := if_pos rfl
    rw [hT]
    refine omMx_lub hb'.1 (fun j hj => ?_)
    obtain ⟨k, hk, rfl⟩ := h3 j hj
    have e1 : omCs 0 d w C (q k) = C (q k) - d (q k) := if_pos rfl
    have e2 := (hq k hk).2.1.2
    have e3 := omPl1_now hok (h1 k hk)
    have e4 : omUg p d f s R (omSs q k) (omPl 1 p f s q k).2 (q k) = omTk p f s (omPl 1 p f s q k).2 (q k) + max (-(d (q k))) (R (5 * (omSs q k ||| 2 ^ (q k)) + (f (q k)).toNat)) := rfl
    have e5 : omTk p f s (omPl 1 p f s q k).2 (q k) = p (q k) + omSu f s (omPl 1 p f s q k).2 (q k) := rfl
    have e6 : C (q k) = omNow (omPl 1 p f s q (k + 1)).1 := hC k hk
    omega
  refine om_least (by omega) (fun Q C' hQ hC' => ?_) ⟨q, C, hsq, hC9, Int.le_refl _⟩
  have := om_fam_low (w := w) hok hn hR hQ hC'
  omega
