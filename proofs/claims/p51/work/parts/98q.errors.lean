/-! errors: none -/
theorem q_errors {σ : Sto} {D0 : Doc} {T0 : Hst} (h : In σ D0 T0) : ∃ σ', f11_errors σ = some (0, σ') := by
  obtain ⟨f, n, hd, c, cu, ma, lf, ml⟩ := D0
  obtain ⟨N, x, par, cho, Bf, Af⟩ := T0
  obtain ⟨μ, L, B, H, h0⟩ := id h
  have hcl := h0.close
  have c33 : fI (uI (uI μ 2017 34 0) 2017 33 (-1)) 2017 33 = -1 := by rw [fI_uI, if_pos rfl, if_pos rfl]
  have c34 : fI (uI (uI μ 2017 34 0) 2017 33 (-1)) 2017 34 = 0 := by rw [fI_uI, if_pos rfl, if_neg (by decide), fI_uI, if_pos rfl, if_pos rfl]
  have c3 : fI (uI (uI σ 24 3 0) 24 4 0) 24 3 = 0 := by rw [fI_uI, if_pos rfl, if_neg (by decide), fI_uI, if_pos rfl, if_pos rfl]
  have c4 : fI (uI (uI σ 24 3 0) 24 4 0) 24 4 = 0 := by rw [fI_uI, if_pos rfl, if_pos rfl]
  have eCl : f4_closeGroup σ = some (uI (uI σ 24 3 0) 24 4 0) := rfl
  generalize uI (uI σ 24 3 0) 24 4 0 = σc at hcl c3 c4 eCl
  generalize uI (uI μ 2017 34 0) 2017 33 (-1) = μc at hcl c33 c34
  have hM : MT μc f n := hcl.2.2.1.1
  have hE := hcl.1.2.1
  have rc := hcl.2.2.2.2.2.2.2.2.2.2.2
  -- the copies
  obtain ⟨kp1, kp2⟩ := hcl.2.2.2.2.2.2.2.2.1
  obtain ⟨σb, b1, b2, b3, b4⟩ := c8_become hcl.2.1 hcl.1 hcl.2.2.2.1.cells (t := 2005) (by omega) ⟨kp1.2.1, by decide, by decide⟩ ⟨kp1.2.2.1, by decide, by decide⟩ ⟨kp1.2.2.2, by decide, by decide⟩
  obtain ⟨μk, m1, m2, m3, m4, m5⟩ := c12_keeps hcl.2.2.1 hcl.1 (q := 300) (by omega)
  have rk : RH σc μk (N, x, par, cho, Bf, Af) := rc.again rc.1.2.1 rfl rc.1.2.2.2.2.1 (fun _ _ => rfl) (by rw [m4]) (by rw [m4]; exact rc.1.2.2.2.2.2.1) (m5 2034 (by omega)) (m5 2035 (by omega)) (fun i i1 i2 => by
    obtain ⟨d1, d2, d3⟩ := rc.2.2.2.2.1 i i1 i2
    exact ⟨d2, m3 _ _ (by have := rc.1.1; omega) d1 d3⟩) (fun i i1 i2 i3 => by
    obtain ⟨d1, d2, d3⟩ := rc.2.2.2.2.2.1 i i1 i2 i3
    exact ⟨d1, d2, m3 _ _ (by have := rc.1.1; omega) d1 d3⟩) rc.2.2.2.2.2.2
  have hk : Rel0 σc μk (f, n, hd, c, cu, ma, lf, ml) L B H (N, x, par, cho, Bf, Af) := RelT.act (P := RT) hcl Sm.rf (fun k hk => by rw [m4]) (fun a ha => m5 a (by omega)) hcl.1 hcl.2.1 (hcl.2.2.1.congr (by rw [m4]) (by rw [m4]) (m5 _ (by omega)) (m5 _ (by omega)) (m5 _ (by omega)) (m5 _ (by omega)) (m5 _ (by omega))) hcl.2.2.2.1 (by rw [m4]; exact hcl.2.2.2.2.2.2.2.2.2.2.1) rk
  have hb : Rel0 σb μk (f, n, hd, c, cu, ma, lf, ml) L B H (N, x, par, cho, Bf, Af) := hk.spare (b3.weak (by omega)) b4
  have hCLO : CLO σb μk (f, n, hd, c, cu, ma, lf, ml) := ⟨⟨by rw [(b3 24 (by omega)).1]; exact c3, by rw [(b3 24 (by omega)).1]; exact c4⟩, by rw [m4]; exact c33, by rw [m4]; exact c34, m2⟩
  obtain ⟨k0, _, dp, k150, dz, dn⟩ := depth_both rk
  obtain ⟨σ1, M1, Af1, D1, e1, e2, e3, e4, e5, e6⟩ := err_back hb hCLO k150 dz dn (y := 0) (z := 0)
  obtain ⟨σ2, M2, f1, f2, f3, f4, f5⟩ := err_on e3 e5 k150 e4 (y := 0)
  have hS2 : SC σ2 2005 2006 2007 2008 (f, n, hd, c, cu, ma, lf, ml) := by
    have fr : Sm (fun a => 1989 ≤ a) σb σ2 := e6.trans f5
    exact b2.congr (fr 2005 (by omega)).1 (fr 2005 (by omega)).2.1 (fr _ (by omega)).2.2.1 (fr _ (by omega)).2.2.1 (fr _ (by omega)).2.2.1 (fr _ (by omega)).2.2.1 (fr _ (by omega)).2.2.1 (fr _ (by omega)).2.2.1
  have eU : f8_countUnlike σ2 1 2005 = some 0 := c8_countUnlike f3.2.1 hS2 hcl.1.2.2.2.2.2.1.2
  have hMk : MT μk f n := hk.2.2.1.1
  have eC : f11_errors σ = some (0 + 0, σ2) := by
    unfold f11_errors f11_errors_j22
    rw [eCl, bnd_some, c8_trueBegins hcl.2.1.1, bnd_some, if_neg (by decide), stp, b1, bnd_some, e1, bnd_some, stp, f1, bnd_some, eU, bnd_some]
  exact ⟨σ2, eC⟩
