/-! paint, level, turn, mirror -/
theorem im_fdK {F D D' F' D2 F2 : Nat → Int32} (G : im_FD F D D' F') (o : ∀ f, f < 4 → D2 (4 + f) = D' (4 + f) ∧ F2 (4 + f) = F' (4 + f)) : im_FD F D D2 F2 := fun f hf =>
  ⟨(G f hf).1.trans (o f hf).2.symm, (G f hf).2.1.trans (o f hf).1.symm, (G f hf).2.2⟩
theorem i_vc_paint {k : Nat} {u : SX} {v : SY} (I : i_Rel k u v) (hk : k + 5 ≤ 2560) (v1 : Int32) (v2 : Int32) (v3 : Int32) (v4 : Int32) : wpX_paint (fun r u' => wpY_paint (fun r' v' => r' = r ∧ i_Rel (k + 5) u' v') v v1 v2 v3 v4) u v1 v2 v3 v4 := by
  obtain ⟨W, H, V, F, D, U⟩ := u
  obtain ⟨V', W', H', T, D', F'⟩ := v
  have R : i_Rel (k + 5) (W, H, V, F, D, U) (V', W', H', T, D', F') := I
  have A : im_All W H V V' W' H' T := I.1
  unfold wpX_paint; dsimp only
  rcases im_num v1 with h1 | ⟨s, hs, rfl⟩
  · refine im_xIfU h1 (br_f im_m1 ?_)
    unfold wpY_paint; dsimp only
    exact im_yUn h1 (br_f im_10 ⟨rfl, R⟩)
  rcases A s (by omega) with ⟨e1, e2, e3⟩ | ⟨w, h, p, bd, X, Y⟩
  · refine im_xIfN hs e1 (br_f im_m2 ?_)
    unfold wpY_paint; dsimp only
    exact im_yUk hs (br_t rfl (im_yTn (by omega) e3 ⟨rfl, R⟩))
  have bd' := bd
  obtain ⟨w0, w8, h0, h8⟩ := bd'
  have c64 := im_64b w8 h8
  refine im_xIfP hs X.1 w0 w8 (br_t rfl (im_xPl (by omega) X.1 X.2.1 ?_))
  by_cases z3 : v3 < 1
  · refine br_t z3 ?_
    unfold wpY_paint; dsimp only
    exact im_yUk hs (br_t rfl (im_yTp (by omega) Y.1 (br_t z3 ⟨rfl, R⟩)))
  rcases im_side v3 (h * w) (by omega) with b3 | ⟨c, c0, cN, rfl⟩
  · have b3' := b3.resolve_left z3
    refine br_f z3 (br_t (Int32.not_le.mp b3') ?_)
    unfold wpY_paint; dsimp only
    refine im_yUk hs (br_t rfl (im_yTp (by omega) Y.1 (br_f z3 (br_c (fun _ => ⟨rfl, R⟩) (fun z2 => im_yPl (by omega) Y.2.1 Y.2.2.1 ?_)))))
    refine br_c (fun _ => ⟨rfl, R⟩) (fun z4 => im_yPl (by omega) Y.2.1 Y.2.2.1 (br_f (fun z5 => ?_) ⟨rfl, R⟩))
    obtain ⟨g, hg, rfl⟩ := nI_of z2
    have gN : g < h * w := Nat.lt_of_not_le (fun q => z4 (nI_le q hg))
    rw [pk_sub (by omega)] at z5
    exact b3' (Int32.le_trans z5 (nI_le (by omega) (by omega)))
  have n3 : ¬ nI (h * w) < nI c := nI_nlt cN (by omega)
  rcases pk_ix v2 (n := h * w) (by omega) with z2 | z2 | ⟨g, hg, rfl⟩
  · refine br_f z3 (br_f n3 (br_t z2 ?_))
    unfold wpY_paint; dsimp only
    exact im_yUk hs (br_t rfl (im_yTp (by omega) Y.1 (br_f z3 (br_t z2 ⟨rfl, R⟩))))
  · have y0 : wpY_paint (fun r' v' => r' = -1 ∧ i_Rel (k + 5) (W, H, V, F, D, U) v') (V', W', H', T, D', F') (nI s) v2 (nI c) v4 := by
      unfold wpY_paint; dsimp only
      exact im_yUk hs (br_t rfl (im_yTp (by omega) Y.1 (br_f z3 (br_c (fun _ => ⟨rfl, R⟩) (fun _ => im_yPl (by omega) Y.2.1 Y.2.2.1 (br_t z2 ⟨rfl, R⟩))))))
    refine br_f z3 (br_f n3 (br_c (fun _ => y0) (fun _ => br_f (fun z5 => ?_) y0)))
    rw [pk_sub (by omega)] at z5
    exact absurd (Int32.le_trans z2 z5) (nI_ge (by omega) (by omega))
  have g0 : ¬ nI g < 0 := nI_pos (by omega)
  have gN : ¬ nI (h * w) ≤ nI g := nI_ge hg (by omega)
  by_cases fit : g + c ≤ h * w
  · refine br_f z3 (br_f n3 (br_f g0 (br_t ?_ (nm_r (e' := nI (64 * s + g)) (by rw [im_e64, nI_add]) (nm_e (im_xPn (by omega) (fun V2 f => ?_)))))))
    · rw [pk_sub (by omega)]
      exact nI_le (by omega) (by omega)
    unfold wpY_paint; dsimp only
    refine im_yUk hs (br_t rfl (im_yTp (by omega) Y.1 (br_f z3 (br_f g0 (im_yPl (by omega) Y.2.1 Y.2.2.1 (br_f gN (im_yPl (by omega) Y.2.1 Y.2.2.1 (br_t ?_ ⟨vp_in_nI (by omega) (by decide), nm_r (e' := nI w) ?_ (im_yPn (by omega) bd fit Y (fun V3 q => ⟨rfl, ?_, I.2⟩))⟩))))))))
    · rw [pk_sub (by omega)]
      exact nI_le (by omega) (by omega)
    · rw [nI_clamp (by omega)]
      exact Y.2.1
    · exact im_put A bd (im_pntX bd X fit f).1 (im_pntX bd X fit f).2 (im_pntY Y q).1 (im_pntY Y q).2
  · refine br_f z3 (br_f n3 (br_f g0 (br_f ?_ ?_)))
    · rw [pk_sub (by omega)]
      exact nI_ge (by omega) (by omega)
    unfold wpY_paint; dsimp only
    refine im_yUk hs (br_t rfl (im_yTp (by omega) Y.1 (br_f z3 (br_f g0 (im_yPl (by omega) Y.2.1 Y.2.2.1 (br_f gN (im_yPl (by omega) Y.2.1 Y.2.2.1 (br_f ?_ ⟨rfl, R⟩))))))))
    rw [pk_sub (by omega)]
    exact nI_ge (by omega) (by omega)
theorem i_vc_level {k : Nat} {u : SX} {v : SY} (I : i_Rel k u v) (hk : k + 5 ≤ 2560) (v1 : Int32) (v2 : Int32) (v3 : Int32) : wpX_level (fun r u' => wpY_level (fun r' v' => r' = r ∧ i_Rel (k + 5) u' v') v v1 v2 v3) u v1 v2 v3 := by
  obtain ⟨W, H, V, F, D, U⟩ := u
  obtain ⟨V', W', H', T, D', F'⟩ := v
  have R : i_Rel (k + 5) (W, H, V, F, D, U) (V', W', H', T, D', F') := I
  have A : im_All W H V V' W' H' T := I.1
  unfold wpX_level; dsimp only
  rcases im_num v1 with h1 | ⟨s, hs, rfl⟩
  · refine im_xIfU h1 (br_f im_m1 ?_)
    unfold wpY_level; dsimp only
    exact im_yUn h1 (br_f im_10 ⟨rfl, R⟩)
  rcases A s (by omega) with ⟨e1, e2, e3⟩ | ⟨w, h, p, bd, X, Y⟩
  · refine im_xIfN hs e1 (br_f im_m2 ?_)
    unfold wpY_level; dsimp only
    exact im_yUk hs (br_t rfl (im_yTn (by omega) e3 ⟨rfl, R⟩))
  have bd' := bd
  obtain ⟨w0, w8, h0, h8⟩ := bd'
  have c64 := im_64b w8 h8
  refine im_xIfP hs X.1 w0 w8 (br_t rfl (nm_r (im_e64 s) (im_xPl (by omega) X.1 X.2.1 (im_xLv (by omega) c64 (fun V2 f => ?_)))))
  unfold wpY_level; dsimp only
  refine im_yUk hs (br_t rfl (im_yTp (by omega) Y.1 (nm_r (im_e64' s) (im_yLv (by omega) Y.2.1 Y.2.2.1 (fun V3 g => ⟨rfl, ?_, I.2⟩)))))
  refine im_put (s := s) (w := w) (h := h) (p := fun y x => (p y x * v2 + v3) &&& 255) A bd ⟨X.1, X.2.1, im_xpF f (Nat.le_refl _) (fun y x hy hx => ?_)⟩ ⟨fun _ _ => ⟨rfl, rfl⟩, fun j hj => f.2 j (by omega)⟩
    ⟨Y.1, Y.2.1, Y.2.2.1, fun y x hy hx => (g.1 (8 * y + x) (by omega)).trans ?_⟩ ⟨fun _ _ _ => ⟨rfl, rfl, rfl⟩, fun j hj _ => g.2 j hj⟩
  · rw [X.2.2 y x hy hx]
  · dsimp only
    rw [Y.2.2.2 y x hy hx]
theorem i_vc_turn {k : Nat} {u : SX} {v : SY} (I : i_Rel k u v) (hk : k + 5 ≤ 2560) (v1 : Int32) (v2 : Int32) : wpX_turn (fun r u' => wpY_turn (fun r' v' => r' = r ∧ i_Rel (k + 5) u' v') v v1 v2) u v1 v2 := by
  obtain ⟨W, H, V, F, D, U⟩ := u
  obtain ⟨V', W', H', T, D', F'⟩ := v
  have R : i_Rel (k + 5) (W, H, V, F, D, U) (V', W', H', T, D', F') := I
  have A : im_All W H V V' W' H' T := I.1
  unfold wpX_turn; dsimp only
  rcases im_num v1 with h1 | ⟨s, hs, rfl⟩
  · refine im_xIfU h1 (br_f im_m1 ?_)
    unfold wpY_turn; dsimp only
    exact im_yUn h1 (br_f im_10 ⟨rfl, R⟩)
  rcases A s (by omega) with ⟨e1, e2, e3⟩ | ⟨w, h, p, bd, X, Y⟩
  · refine im_xIfN hs e1 (br_f im_m2 ?_)
    unfold wpY_turn; dsimp only
    exact im_yUk hs (br_t rfl (im_yTn (by omega) e3 ⟨rfl, R⟩))
  obtain ⟨m, hm, em⟩ := pk_andE v2 (m := 3) 2 (by decide)
  refine im_xIfP hs X.1 bd.1 bd.2.1 (br_t rfl (nm_r em (im_xTu (by omega) bd hm X (fun W2 H2 V2 U2 a b => ?_))))
  unfold wpY_turn; dsimp only
  exact im_yUk hs (br_t rfl (im_yTp (by omega) Y.1 (im_yTu (by omega) bd hm em Y (fun V3 W3 H3 T3 D3 F3 c d o => ⟨rfl, im_put A (im_rotB (t := (w, h, p)) bd m) a b c d, im_fdK I.2 (fun f hf => o (4 + f) (by omega))⟩))))
theorem i_vc_mirror {k : Nat} {u : SX} {v : SY} (I : i_Rel k u v) (hk : k + 5 ≤ 2560) (v1 : Int32) : wpX_mirror (fun r u' => wpY_mirror (fun r' v' => r' = r ∧ i_Rel (k + 5) u' v') v v1) u v1 := by
  obtain ⟨W, H, V, F, D, U⟩ := u
  obtain ⟨V', W', H', T, D', F'⟩ := v
  have R : i_Rel (k + 5) (W, H, V, F, D, U) (V', W', H', T, D', F') := I
  have A : im_All W H V V' W' H' T := I.1
  unfold wpX_mirror; dsimp only
  rcases im_num v1 with h1 | ⟨s, hs, rfl⟩
  · refine im_xIfU h1 (br_f im_m1 ?_)
    unfold wpY_mirror; dsimp only
    exact im_yUn h1 (br_f im_10 ⟨rfl, R⟩)
  rcases A s (by omega) with ⟨e1, e2, e3⟩ | ⟨w, h, p, bd, X, Y⟩
  · refine im_xIfN hs e1 (br_f im_m2 ?_)
    unfold wpY_mirror; dsimp only
    exact im_yUk hs (br_t rfl (im_yTn (by omega) e3 ⟨rfl, R⟩))
  refine im_xIfP hs X.1 bd.1 bd.2.1 (br_t rfl ⟨vp_in_nI (by omega) (by decide), nm_r (e' := nI w) (by rw [nI_clamp (by omega), X.1]) ⟨vp_in_nI (by omega) (by decide), nm_r (e' := nI h) (by rw [nI_clamp (by omega), X.2.1]) (im_xMi (by omega) bd X (fun V2 a b => ?_))⟩⟩)
  unfold wpY_mirror; dsimp only
  exact im_yUk hs (br_t rfl (im_yTp (by omega) Y.1 (im_yMi (by omega) bd Y (fun V3 W3 H3 T3 D3 F3 c d o => ⟨rfl, im_put A bd a b c d, im_fdK I.2 (fun f hf => o (4 + f) (by omega))⟩))))
