/-! ===== p39: the calls that change the jobs ===== -/
theorem omRg_I {a b c e g : Int} (h : omRg a b c e g) : omI a ∧ omI b ∧ omI c ∧ omI e ∧ omI g := by
  unfold omRg at h
  unfold omI
  exact ⟨⟨by omega, by omega⟩, ⟨by omega, by omega⟩, ⟨by omega, by omega⟩, ⟨by omega, by omega⟩, ⟨by omega, by omega⟩⟩
section
variable {n : Nat} {p d w r f s : Nat → Int} {σ : omH}
theorem om_addJob2 {a b c e g : Int} (hok : omOk n p d w r f s) (h2 : omCv n p d w r f s σ) (h10 : n < 10) (h : omRg a b c e g) : ∃ τ, s_X11_addJob a b c e g σ = some (Sum.inr ((n : Int), τ)) ∧ omCv (n + 1) (omUp p n a) (omUp d n b) (omUp w n c) (omUp r n e) (omUp f n g) s τ ∧ omEx [17, 18, 19, 20, 21, 22, 24] σ τ ∧ τ 24 0 = 0 ∧ τ 24 1 = 0 := by
  obtain ⟨ha, hb, hc, he, hg⟩ := omRg_I h
  obtain ⟨τ1, x1, x2, x3⟩ := s_X2_put_eq (j := n) (a := a) (b := b) (c := c) (e := e) (g := g) (n := n + 1) (p := p) (d := d) (w := w) (r := r) (f := f) (s := s) (σ := omsu σ 17 0 ((n : Int) + 1)) ⟨by rw [omsu_s]; omega, by rw [omsu_o (by decide)]; exact h2.2.1, by rw [omsu_o (by decide)]; exact h2.2.2.1, by rw [omsu_o (by decide)]; exact h2.2.2.2.1, by rw [omsu_o (by decide)]; exact h2.2.2.2.2.1, by rw [omsu_o (by decide)]; exact h2.2.2.2.2.2.1, by rw [omsu_o (by decide)]; exact h2.2.2.2.2.2.2⟩ h10
  obtain ⟨τ2, y1, y2, y3, y4⟩ := s_X5_drop_eq (σ := τ1)
  refine ⟨τ2, ?_, x2.ex y2 (by simp), ((omEx.su (W := [17, 18, 19, 20, 21, 22, 24]) (by simp)).trans (x3.mono (by simp))).trans (y2.mono (by simp)), y3, y4⟩
  unfold s_X11_addJob
  rw [(s_X11_needJobInRange_eq ha hb hc he hg).1 h, om_b0, Sum.elim_inr, h2.1, om_wn (by omega), if_pos (by show (n : Int) < omw 10; rw [show omw 10 = 10 from rfl]; omega), x1, om_b0, y1, om_b0]
theorem om_changeJob7 {j : Nat} {a b c e g : Int} (hok : omOk n p d w r f s) (h2 : omCv n p d w r f s σ) (hj : j < n) (h : omRg a b c e g) : ∃ τ, s_X11_changeJob (j : Int) a b c e g σ = some (Sum.inr τ) ∧ omCv n (omUp p j a) (omUp d j b) (omUp w j c) (omUp r j e) (omUp f j g) s τ ∧ omEx [18, 19, 20, 21, 22, 24] σ τ ∧ τ 24 0 = 0 ∧ τ 24 1 = 0 := by
  have hn := hok.1
  obtain ⟨ha, hb, hc, he, hg⟩ := omRg_I h
  obtain ⟨τ1, x1, x2, x3⟩ := s_X2_put_eq (j := j) (a := a) (b := b) (c := c) (e := e) (g := g) h2 (by omega)
  obtain ⟨τ2, y1, y2, y3, y4⟩ := s_X5_drop_eq (σ := τ1)
  refine ⟨τ2, ?_, x2.ex y2 (by simp), (x3.mono (by simp)).trans (y2.mono (by simp)), y3, y4⟩
  have hv : (0 : Int) ≤ (j : Int) ∧ (j : Int) < n := ⟨Int.natCast_nonneg j, Int.ofNat_lt.mpr hj⟩
  unfold s_X11_changeJob
  rw [(s_X11_needJob_eq hok h2 ⟨by omega, by omega⟩).1 hv, om_b0, Sum.elim_inr, (s_X11_needJobInRange_eq ha hb hc he hg).1 h, om_b0, Sum.elim_inr, x1, om_b0, y1, om_b0]
theorem om_removeJob2 {j : Nat} (hok : omOk n p d w r f s) (h2 : omCv n p d w r f s σ) (hj : j < n) : ∃ τ, s_X11_removeJob (j : Int) σ = some (Sum.inr (((n - 1 : Nat) : Int), τ)) ∧ omCv (n - 1) (omSh j (n - 1) p) (omSh j (n - 1) d) (omSh j (n - 1) w) (omSh j (n - 1) r) (omSh j (n - 1) f) s τ ∧ omEx [17, 18, 19, 20, 21, 22, 24] σ τ ∧ τ 24 0 = 0 ∧ τ 24 1 = 0 := by
  have hn := hok.1
  obtain ⟨τ1, x1, x2, x3⟩ := l_X2_remove_4_eq (j := j) (p := p) (d := d) (w := w) (r := r) (f := f) (s := s) hok.1 (n - 1 - j) j FU σ (by omega) (Nat.le_refl _) (by rw [FU_eq]; omega) (by rw [omSh_0, omSh_0, omSh_0, omSh_0, omSh_0]; exact h2)
  have x1' : l_X2_remove_4 FU ((j : Int) + 1) σ = some τ1 := x1
  obtain ⟨τ2, y1, y2, y3, y4⟩ := s_X5_drop_eq (σ := omsu τ1 17 0 ((n : Int) - 1))
  have e17 : τ2 17 0 = ((n - 1 : Nat) : Int) := by rw [y2 17 (by simp), omsu_s]; omega
  have hcv : omCv (n - 1) (omSh j (n - 1) p) (omSh j (n - 1) d) (omSh j (n - 1) w) (omSh j (n - 1) r) (omSh j (n - 1) f) s τ2 := by
    refine ⟨e17, ?_, ?_, ?_, ?_, ?_, ?_⟩
    · rw [y2 18 (by simp), omsu_o (by decide)]; exact x2.2.1
    · rw [y2 19 (by simp), omsu_o (by decide)]; exact x2.2.2.1
    · rw [y2 20 (by simp), omsu_o (by decide)]; exact x2.2.2.2.1
    · rw [y2 21 (by simp), omsu_o (by decide)]; exact x2.2.2.2.2.1
    · rw [y2 22 (by simp), omsu_o (by decide)]; exact x2.2.2.2.2.2.1
    · rw [y2 23 (by simp), omsu_o (by decide)]; exact x2.2.2.2.2.2.2
  refine ⟨τ2, ?_, hcv, ((x3.mono (by simp)).trans (omEx.su (W := [17, 18, 19, 20, 21, 22, 24]) (by simp))).trans (y2.mono (by simp)), y3, y4⟩
  have hv : (0 : Int) ≤ (j : Int) ∧ (j : Int) < n := ⟨Int.natCast_nonneg j, Int.ofNat_lt.mpr hj⟩
  unfold s_X11_removeJob
  rw [(s_X11_needJob_eq hok h2 ⟨by omega, by omega⟩).1 hv, om_b0, Sum.elim_inr]
  unfold s_X2_remove
  rw [x1', om_b0, x2.1, om_b0, y1, om_b0, e17]
theorem om_setSetup2 {j : Nat} {a : Int} (hok : omOk n p d w r f s) (h2 : omCv n p d w r f s σ) (hj : j < 4) (h : 0 ≤ a ∧ a ≤ 20) : ∃ τ, s_X11_setSetup (j : Int) a σ = some (Sum.inr (s j, τ)) ∧ omCv n p d w r f (omUp s j a) τ ∧ omEx [23, 24] σ τ ∧ τ 24 0 = 0 ∧ τ 24 1 = 0 ∧ omOk n p d w r f (omUp s j a) := by
  obtain ⟨τ2, y1, y2, y3, y4⟩ := s_X5_drop_eq (σ := omsu σ 23 j a)
  have hs : omOk n p d w r f (omUp s j a) := ⟨hok.1, hok.2.1, fun q hq => by
    unfold omUp
    split
    · exact h
    · exact hok.2.2 q hq⟩
  have hc0 : omCv n p d w r f (omUp s j a) (omsu σ 23 j a) := ⟨by rw [omsu_n (Or.inl (by decide))]; exact h2.1, by rw [omsu_o (by decide)]; exact h2.2.1, by rw [omsu_o (by decide)]; exact h2.2.2.1, by rw [omsu_o (by decide)]; exact h2.2.2.2.1, by rw [omsu_o (by decide)]; exact h2.2.2.2.2.1, by rw [omsu_o (by decide)]; exact h2.2.2.2.2.2.1, by rw [omsu_row, h2.2.2.2.2.2.2]⟩
  refine ⟨τ2, ?_, hc0.ex y2 (by simp), (omEx.su (by simp)).trans (y2.mono (by simp)), y3, y4, hs⟩
  have hj3 : (0 : Int) ≤ (j : Int) ∧ (j : Int) ≤ 3 := ⟨Int.natCast_nonneg j, by omega⟩
  unfold s_X11_setSetup
  rw [s_X11_isWithin_eq ⟨by omega, by omega⟩ (by decide) (by decide), om_b0, om_if0 hj3, s_X11_isWithin_eq ⟨by omega, by omega⟩ (by decide) (by decide), om_b0, om_if0 h, om_wn (by omega), omg_t ⟨by omega, by omega⟩, omg_t ⟨by omega, by omega⟩, Int.toNat_natCast, y1, om_b0, h2.2.2.2.2.2.2]
end
/-- no job: the set of none can be on time, and none is late -/
theorem om_none {p d w r f s : Nat → Int} {σ : omH} (hok : omOk 0 p d w r f s) (hc : omCv 0 p d w r f s σ) : (∃ τ, s_X11_fewestLateBySets σ = some (0, τ) ∧ omEx [41] σ τ) ∧ ∃ τ, s_X11_canBeOnTime 0 σ = some (Sum.inr (1, τ)) ∧ omEx [41] σ τ := by
  constructor
  · obtain ⟨τ, q, h1, h2, h3⟩ := s_X11_fewestLateBySets_eq hok hc
    obtain ⟨m1, m2, m3, m4⟩ := omMo_char (n := 0) (p := p) (d := d) (q := q) (2 ^ 0)
    obtain ⟨S, s1, s2, s3⟩ := m2 (by decide)
    have hS : S = 0 := by
      have : S < 1 := s1
      omega
    have hp : omPop 0 = 0 := omSum_zero (fun i _ => by rw [Nat.zero_testBit]; rfl)
    rw [hS, hp] at s3
    rw [← s3] at h1
    exact ⟨τ, h1, h2⟩
  · obtain ⟨τ0, q, a1, a2, a3, a4⟩ := s_X2_fillInOrder_eq (c := 5) (a := 41) hok hc (by decide) (by decide)
    have b1 := s_X8_isOnTimeByDue_eq (S := 0) hok (hc.ex a2 (by simp)) (by decide) a3.1 a4
    have b1' : s_X8_isOnTimeByDue 0 τ0 = some 1 := by
      have ho : omOq 0 p d q 0 := fun k hk => absurd hk (Nat.not_lt_zero k)
      rw [omIf_t ho] at b1
      exact b1
    have hall := s_X2_all_eq hok hc
    refine ⟨τ0, ?_, a2⟩
    unfold s_X11_canBeOnTime s_X8_isOnTime
    rw [hall, om_b0, s_X11_isWithin_eq (by decide) (by decide) (by decide), om_b0, om_if0 (by decide), a1, om_b0, b1', om_b0, omg_t (Or.inr rfl), om_b0, omg_t (Or.inr rfl)]
