def omGoodU (a : Option (Int × omH)) (b : omH → Option omH) : Prop := ∃ k σ1 σ2, a = some (k, σ1) ∧ b σ1 = some σ2 ∧ σ2 43 0 = k ∧ 0 ≤ k ∧ k ≤ 2 ∧ omInv σ2
theorem om_changeJob1 {n : Nat} {p d w r f s : Nat → Int} {σ τ1 τ2 : omH} (h1 : omOk n p d w r f s) (h2 : omCv n p d w r f s σ) {v a b c e g : Int} (hv : omI v) (ha : omI a) (hb : omI b) (hc : omI c) (he : omI e) (hg : omI g) (hj : 0 ≤ v ∧ v < n) (h : omRg a b c e g) (x1 : s_X2_put v a b c e g σ = some τ1) (y1 : s_X5_drop τ1 = some τ2) : s_L_changeJob v a b c e g σ = some (0, τ2) := by
  unfold s_L_changeJob s_X11_changeJob
  rw [(s_X11_needJob_eq h1 h2 hv).1 hj, om_b0]
  simp only [Sum.elim_inr]
  rw [(s_X11_needJobInRange_eq ha hb hc he hg).1 h, om_b0]
  simp only [Sum.elim_inr]
  rw [x1, om_b0, y1, om_b0, om_b0]
  simp only [Sum.elim_inr]
theorem om_changeJob2 {n : Nat} {p d w r f s : Nat → Int} {σ : omH} (h1 : omOk n p d w r f s) (h2 : omCv n p d w r f s σ) {v a b c e g : Int} (hv : omI v) (ha : omI a) (hb : omI b) (hc : omI c) (he : omI e) (hg : omI g) (hj : 0 ≤ v ∧ v < n) (h : ¬ omRg a b c e g) : s_L_changeJob v a b c e g σ = some (2, σ) := by
  unfold s_L_changeJob s_X11_changeJob
  rw [(s_X11_needJob_eq h1 h2 hv).1 hj, om_b0]
  simp only [Sum.elim_inr]
  rw [(s_X11_needJobInRange_eq ha hb hc he hg).2 h, om_b0]
  rfl
theorem om_changeJob3 {n : Nat} {p d w r f s : Nat → Int} {σ : omH} (h1 : omOk n p d w r f s) (h2 : omCv n p d w r f s σ) {v a b c e g : Int} (hv : omI v) (hj : ¬ (0 ≤ v ∧ v < n)) : s_L_changeJob v a b c e g σ = some (1, σ) := by
  unfold s_L_changeJob s_X11_changeJob
  rw [(s_X11_needJob_eq h1 h2 hv).2 hj, om_b0]
  rfl
theorem om_changeJob4 {n : Nat} {p d w r f s : Nat → Int} {σ τ3 : omH} (h1 : omOk n p d w r f s) (h3 : omMv n p d w r f s σ) {v a b c e g : Int} (hv : omI v) (ha : omI a) (hb : omI b) (hc : omI c) (he : omI e) (hg : omI g) (hj : 0 ≤ v ∧ v < n) (h : omRg a b c e g) (z1 : s_X12_lays v a b c e g (omsu σ 43 0 0) = some τ3) : s_X12_changeJob v a b c e g σ = some τ3 := by
  unfold s_X12_changeJob
  rw [s_X12_isJob_eq h1 h3 hv, om_b0, om_if0 hj, s_X12_areRight_eq ha hb hc he hg, om_b0, om_if0 h, om_b0, s_X12_holds0, om_b0, if_neg (by show ¬ omw 1 = 0; decide)]
  show Option.bind (s_X12_lays v a b c e g (omsu σ 43 0 0)) _ = _
  rw [z1, om_b0]
theorem om_changeJob5 {n : Nat} {p d w r f s : Nat → Int} {σ : omH} (h1 : omOk n p d w r f s) (h3 : omMv n p d w r f s σ) {v a b c e g : Int} (hv : omI v) (ha : omI a) (hb : omI b) (hc : omI c) (he : omI e) (hg : omI g) (hj : 0 ≤ v ∧ v < n) (h : ¬ omRg a b c e g) : s_X12_changeJob v a b c e g σ = some (omsu σ 43 0 2) := by
  unfold s_X12_changeJob
  rw [s_X12_isJob_eq h1 h3 hv, om_b0, om_if0 hj, s_X12_areRight_eq ha hb hc he hg, om_b0, om_if1 h, om_b0, s_X12_holds2, om_b0, if_pos (by show omw 0 = 0; decide)]
theorem om_changeJob6 {n : Nat} {p d w r f s : Nat → Int} {σ : omH} (h1 : omOk n p d w r f s) (h3 : omMv n p d w r f s σ) {v a b c e g : Int} (hv : omI v) (hj : ¬ (0 ≤ v ∧ v < n)) : s_X12_changeJob v a b c e g σ = some (omsu σ 43 0 1) := by
  unfold s_X12_changeJob
  rw [s_X12_isJob_eq h1 h3 hv, om_b0, om_if1 hj, om_b0, s_X12_holds1, om_b0, if_pos (by show omw 0 = 0; decide)]
theorem om_changeJob {σ : omH} (hI : omInv σ) {v a b c e g : Int} (hv : omI v) (ha : omI a) (hb : omI b) (hc : omI c) (he : omI e) (hg : omI g) : omGoodU (s_L_changeJob v a b c e g σ) (s_X12_changeJob v a b c e g) := by
  obtain ⟨n, p, d, w, r, f, s, h1, h2, h3, h45, h6⟩ := id hI
  have hn := h1.1
  by_cases hj : 0 ≤ v ∧ v < n
  · obtain ⟨j, hjv⟩ : ∃ j : Nat, v = (j : Int) := ⟨v.toNat, by omega⟩
    by_cases h : omRg a b c e g
    · obtain ⟨τ1, x1, x2, x3⟩ := s_X2_put_eq (j := j) (a := a) (b := b) (c := c) (e := e) (g := g) h2 (by omega)
      obtain ⟨τ2, y1, y2, y3, y4⟩ := s_X5_drop_eq (σ := τ1)
      have hex : omEx [18, 19, 20, 21, 22, 24] σ τ2 := (x3.mono (by simp)).trans (y2.mono (by simp))
      have hmv : omMv n p d w r f s (omsu τ2 43 0 0) := (h3.ex hex (by simp)).ex2 (W := [43]) (omEx.su (by simp)) (by rw [omsu_n (Or.inr (by decide))]) (by simp)
      obtain ⟨τ3, z1, z2, z3, z4, z5, z6⟩ := s_X12_lays_eq (j := j) (a := a) (b := b) (c := c) (e := e) (g := g) hmv (by omega)
      rw [← hjv] at x1 z1
      have hfin : omInv τ3 := om_done (W := [43, 44, 45, 46, 47, 48]) (σ1 := τ2) (omUp_ok (j := j) h1 h1.1 (fun i hi _ => hi) h) (x2.ex y2 (by simp)) y3 y4 (((omEx.su (by simp)) : omEx [43, 44, 45, 46, 47, 48] τ2 (omsu τ2 43 0 0)).trans z3) (by simp) z2 z5 z6
      exact ⟨0, τ2, τ3, om_changeJob1 h1 h2 hv ha hb hc he hg hj h x1 y1, om_changeJob4 h1 (h3.ex hex (by simp)) hv ha hb hc he hg hj h z1, by rw [z4 0 (by decide) (by decide), omsu_s], by decide, by decide, hfin⟩
    · exact ⟨2, σ, omsu σ 43 0 2, om_changeJob2 h1 h2 hv ha hb hc he hg hj h, om_changeJob5 h1 h3 hv ha hb hc he hg hj h, omsu_s, by decide, by decide, hI.thr 2⟩
  · exact ⟨1, σ, omsu σ 43 0 1, om_changeJob3 h1 h2 hv hj, om_changeJob6 h1 h3 hv hj, omsu_s, by decide, by decide, hI.thr 1⟩
