/-! create, set, get -/
theorem i_vc_create {k : Nat} {u : SX} {v : SY} (I : i_Rel k u v) (hk : k + 5 ≤ 2560) (v1 : Int32) (v2 : Int32) (v3 : Int32) (v4 : Int32) : wpX_create (fun r u' => wpY_create (fun r' v' => r' = r ∧ i_Rel (k + 5) u' v') v v1 v2 v3 v4) u v1 v2 v3 v4 := by
  obtain ⟨W, H, V, F, D, U⟩ := u
  obtain ⟨V', W', H', T, D', F'⟩ := v
  have R : i_Rel (k + 5) (W, H, V, F, D, U) (V', W', H', T, D', F') := I
  have A : im_All W H V V' W' H' T := I.1
  rcases im_num v1 with h1 | ⟨s, hs, rfl⟩
  · unfold wpX_create; dsimp only
    refine im_xUn h1 (br_f im_10 ?_)
    unfold wpY_create; dsimp only
    exact im_yUn h1 (br_f im_10 ⟨rfl, R⟩)
  rcases im_side v2 8 (by decide) with h2 | ⟨w, w0, w8, rfl⟩
  · unfold wpX_create; dsimp only
    refine im_xUk hs (br_t rfl (im_xSn h2 (br_f im_10 ?_)))
    unfold wpY_create; dsimp only
    exact im_yUk hs (br_t rfl (br_c (fun _ => ⟨rfl, R⟩) (fun z => br_t (Int32.not_le.mp (h2.resolve_left z)) ⟨rfl, R⟩)))
  have a1 : ¬ nI w < 1 := im_n1 w0 (by omega)
  have a2 : nI w ≤ 8 := nI_le (b := 8) w8 (by decide)
  have a3 : ¬ 8 < nI w := nI_nlt (a := 8) (b := w) w8 (by decide)
  rcases im_side v3 8 (by decide) with h3 | ⟨h, h0, h8, rfl⟩
  · unfold wpX_create; dsimp only
    refine im_xUk hs (br_t rfl (im_xSk a1 a2 (br_t rfl (im_xSn h3 (br_f im_10 ?_)))))
    unfold wpY_create; dsimp only
    exact im_yUk hs (br_t rfl (br_f a1 (br_f a3 (br_c (fun _ => ⟨rfl, R⟩) (fun z => br_f (h3.resolve_left z) ⟨rfl, R⟩)))))
  have b1 : ¬ nI h < 1 := im_n1 h0 (by omega)
  have b2 : nI h ≤ 8 := nI_le (b := 8) h8 (by decide)
  have c64 := im_64b w8 h8
  unfold wpX_create; dsimp only
  refine im_xUk hs (br_t rfl (im_xSk a1 a2 (br_t rfl (im_xSk b1 b2 (br_t rfl (im_st s rfl (by omega) (by decide) (im_st s rfl (by omega) (by decide) (nm_r (im_e64 s) (nm_r (e' := nI (h * w)) (by rw [pk_mul, Nat.mul_comm]) (im_xCr (by omega) c64 (fun V2 f => ?_)))))))))))
  unfold wpY_create; dsimp only
  refine im_yUk hs (br_t rfl (br_f a1 (br_f a3 (br_f b1 (br_t b2 (im_st s rfl (by omega) (by decide) (im_st s rfl (by omega) (by decide) (im_st s rfl (by omega) (by decide) (im_yCr (by omega) pk_us pk_us (fun V3 g => ⟨rfl, ?_, I.2⟩))))))))))
  exact im_put (s := s) (w := w) (h := h) (p := fun _ _ => v4 &&& 255) A ⟨w0, w8, h0, h8⟩ ⟨pk_us, pk_us, im_xpF f (Nat.le_refl _) (fun _ _ _ _ => rfl)⟩ (im_xfU (fun j hj => f.2 j (by omega)))
    ⟨pk_us.trans im_vb1, pk_us, pk_us, fun y x hy hx => g.1 (8 * y + x) (by omega)⟩ ⟨fun t ht _ => ⟨pk_un ht, pk_un ht, pk_un ht⟩, fun j hj _ => g.2 j hj⟩
theorem i_vc_set {k : Nat} {u : SX} {v : SY} (I : i_Rel k u v) (hk : k + 5 ≤ 2560) (v1 : Int32) (v2 : Int32) (v3 : Int32) (v4 : Int32) : wpX_set (fun r u' => wpY_set (fun r' v' => r' = r ∧ i_Rel (k + 5) u' v') v v1 v2 v3 v4) u v1 v2 v3 v4 := by
  obtain ⟨W, H, V, F, D, U⟩ := u
  obtain ⟨V', W', H', T, D', F'⟩ := v
  have R : i_Rel (k + 5) (W, H, V, F, D, U) (V', W', H', T, D', F') := I
  have A : im_All W H V V' W' H' T := I.1
  unfold wpX_set; dsimp only
  rcases im_num v1 with h1 | ⟨s, hs, rfl⟩
  · refine im_xIfU h1 (br_f im_m1 ?_)
    unfold wpY_set; dsimp only
    exact im_yUn h1 (br_f im_10 ⟨rfl, R⟩)
  rcases A s (by omega) with ⟨e1, e2, e3⟩ | ⟨w, h, p, bd, X, Y⟩
  · refine im_xIfN hs e1 (br_f im_m2 ?_)
    unfold wpY_set; dsimp only
    exact im_yUk hs (br_t rfl (im_yTn (by omega) e3 ⟨rfl, R⟩))
  obtain ⟨w0, w8, h0, h8⟩ := bd
  refine im_xIfP hs X.1 w0 w8 (br_t rfl ?_)
  rcases im_plc v2 v3 w8 h8 with o | ⟨a, b, ha, hb, rfl, rfl⟩
  · refine im_xNpT (by omega) X.1 X.2.1 o (br_f im_10 ?_)
    unfold wpY_set; dsimp only
    exact im_yUk hs (br_t rfl (im_yTp (by omega) Y.1 (im_yInF (by omega) Y.2.1 Y.2.2.1 o (br_t rfl ⟨rfl, R⟩))))
  have i1 := im_ix hb ha
  have c64 := im_64b w8 h8
  refine im_xNpF (by omega) X.1 X.2.1 w8 h8 ha hb (br_t rfl (im_xIx (by omega) X.1 ⟨vp_in_nI (by omega) (by decide), nm_r (e' := p b a) ?_ (im_st (64 * s + (b * w + a)) rfl (by omega) (by decide) ?_)⟩))
  · rw [nI_clamp (by omega)]
    exact X.2.2 b a hb ha
  unfold wpY_set; dsimp only
  refine im_yUk hs (br_t rfl (im_yTp (by omega) Y.1 (im_yInT (by omega) Y.2.1 Y.2.2.1 w8 h8 ha hb (br_f im_10 ⟨pk_in (64 * s + (8 * b + a)) 576 (by omega) (im_y1 s b a), nm_r (e' := p b a) ?_ (im_st (64 * s + (8 * b + a)) (im_y1 s b a) (by omega) (by decide) ⟨rfl, ?_, I.2⟩)⟩))))
  · rw [im_y1, nI_clamp (by omega)]
    exact Y.2.2.2 b a hb ha
  · have B : im_Bd w h := ⟨w0, w8, h0, h8⟩
    exact im_put A B (im_setX (c := v4 &&& 255) B ha hb X).1 (im_setX B ha hb X).2 (im_setY B ha hb Y).1 (im_setY B ha hb Y).2
theorem i_vc_get {k : Nat} {u : SX} {v : SY} (I : i_Rel k u v) (hk : k + 5 ≤ 2560) (v1 : Int32) (v2 : Int32) (v3 : Int32) : wpX_get (fun r => wpY_get (fun r' => r' = r ∧ i_Rel (k + 5) u v) v v1 v2 v3) u v1 v2 v3 := by
  obtain ⟨W, H, V, F, D, U⟩ := u
  obtain ⟨V', W', H', T, D', F'⟩ := v
  have R : i_Rel (k + 5) (W, H, V, F, D, U) (V', W', H', T, D', F') := I
  have A : im_All W H V V' W' H' T := I.1
  unfold wpX_get; dsimp only
  rcases im_num v1 with h1 | ⟨s, hs, rfl⟩
  · refine im_xIfU h1 (br_f im_m1 ?_)
    unfold wpY_get; dsimp only
    exact im_yUn h1 (br_f im_10 ⟨rfl, R⟩)
  rcases A s (by omega) with ⟨e1, e2, e3⟩ | ⟨w, h, p, bd, X, Y⟩
  · refine im_xIfN hs e1 (br_f im_m2 ?_)
    unfold wpY_get; dsimp only
    exact im_yUk hs (br_t rfl (im_yTn (by omega) e3 ⟨rfl, R⟩))
  obtain ⟨w0, w8, h0, h8⟩ := bd
  refine im_xIfP hs X.1 w0 w8 (br_t rfl ?_)
  rcases im_plc v2 v3 w8 h8 with o | ⟨a, b, ha, hb, rfl, rfl⟩
  · refine im_xNpT (by omega) X.1 X.2.1 o (br_f im_10 ?_)
    unfold wpY_get; dsimp only
    exact im_yUk hs (br_t rfl (im_yTp (by omega) Y.1 (im_yInF (by omega) Y.2.1 Y.2.2.1 o (br_t rfl ⟨rfl, R⟩))))
  have i1 := im_ix hb ha
  have c64 := im_64b w8 h8
  refine im_xNpF (by omega) X.1 X.2.1 w8 h8 ha hb (br_t rfl (im_xIx (by omega) X.1 ⟨vp_in_nI (by omega) (by decide), ?_⟩))
  unfold wpY_get; dsimp only
  refine im_yUk hs (br_t rfl (im_yTp (by omega) Y.1 (im_yInT (by omega) Y.2.1 Y.2.2.1 w8 h8 ha hb (br_f im_10 ⟨pk_in (64 * s + (8 * b + a)) 576 (by omega) (im_y1 s b a), ?_, R⟩))))
  rw [im_y1, nI_clamp (by omega), nI_clamp (by omega)]
  exact (Y.2.2.2 b a hb ha).trans (X.2.2 b a hb ha).symm
