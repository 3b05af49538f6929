/-! crop, shrink, copy, save, load, convert -/
theorem im_fdU {F D D' F' D2 F2 : Nat → Int32} {g : Nat} {q d : Int32} (G : im_FD F D D' F') (hd : d = 0 ∨ d = 1) (e1 : F2 (4 + g) = q) (e2 : D2 (4 + g) = d) (o : ∀ t, t ≠ 4 + g → D2 t = D' t ∧ F2 t = F' t) :
    im_FD (upd F g q) (upd D g d) D2 F2 := by
  intro f hf
  by_cases e : f = g
  · subst e
    rw [pk_us, pk_us]
    exact ⟨e1.symm, e2.symm, hd⟩
  · rw [pk_un e, pk_un e]
    obtain ⟨a, b⟩ := o (4 + f) (by omega)
    exact ⟨(G f hf).1.trans b.symm, (G f hf).2.1.trans a.symm, (G f hf).2.2⟩
theorem i_vc_crop {k : Nat} {u : SX} {v : SY} (I : i_Rel k u v) (hk : k + 5 ≤ 2560) (v1 : Int32) (v2 : Int32) (v3 : Int32) : wpX_crop (fun r u' => wpY_crop (fun r' v' => r' = r ∧ i_Rel (k + 5) u' v') v v1 v2 v3) u v1 v2 v3 := by
  obtain ⟨W, H, V, F, D, U⟩ := u
  obtain ⟨V', W', H', T, D', F'⟩ := v
  have R : i_Rel (k + 5) (W, H, V, F, D, U) (V', W', H', T, D', F') := I
  have A : im_All W H V V' W' H' T := I.1
  unfold wpX_crop; dsimp only
  rcases im_num v1 with h1 | ⟨s, hs, rfl⟩
  · refine im_xIfU h1 (br_f im_m1 ?_)
    unfold wpY_crop; dsimp only
    exact im_yUn h1 (br_f im_10 ⟨rfl, R⟩)
  rcases A s (by omega) with ⟨e1, e2, e3⟩ | ⟨w, h, p, bd, X, Y⟩
  · refine im_xIfN hs e1 (br_f im_m2 ?_)
    unfold wpY_crop; dsimp only
    exact im_yUk hs (br_t rfl (im_yTn (by omega) e3 ⟨rfl, R⟩))
  have bd' := bd
  obtain ⟨w0, w8, h0, h8⟩ := bd'
  refine im_xIfP hs X.1 w0 w8 (br_t rfl ?_)
  rcases im_plc v2 v3 w8 h8 with o | ⟨a, b, ha, hb, rfl, rfl⟩
  · refine im_xNpT (by omega) X.1 X.2.1 o (br_f im_10 ?_)
    unfold wpY_crop; dsimp only
    exact im_yUk hs (br_t rfl (im_yTp (by omega) Y.1 (im_yInF (by omega) Y.2.1 Y.2.2.1 o (br_t rfl ⟨rfl, R⟩))))
  have n8 : s ≠ 8 := by omega
  have is9 : vp_in (nI s) 9 := vp_in_nI (by omega) (by decide)
  have ew : W (nI s).toNatClampNeg = nI w := by rw [nI_clamp (by omega)]; exact X.1
  have eh : H (nI s).toNatClampNeg = nI h := by rw [nI_clamp (by omega)]; exact X.2.1
  have fw : upd W' 8 (W' s) (nI s).toNatClampNeg = nI w := by rw [nI_clamp (by omega), pk_un n8]; exact Y.2.1
  have fh : upd H' 8 (H' s) (nI s).toNatClampNeg = nI h := by rw [nI_clamp (by omega), pk_un n8]; exact Y.2.2.1
  refine im_xNpF (by omega) X.1 X.2.1 w8 h8 ha hb (br_t rfl ⟨vp_in_nI (by omega) (by decide), vp_in_nI (by omega) (by decide), ?_⟩)
  rw [ew, eh, pk_sub (Nat.le_of_lt ha), pk_sub (Nat.le_of_lt hb)]
  refine im_xKp (by omega) bd (by omega) (by omega) X (fun V2 c d => im_xPl (w := w - a) (h := h - b) (by omega) pk_us pk_us ?_)
  unfold wpY_crop; dsimp only
  refine im_yUk hs (br_t rfl (im_yTp (by omega) Y.1 (im_yInT (by omega) Y.2.1 Y.2.2.1 w8 h8 ha hb (br_f im_10 (im_yBc (t := 8) (by omega) (by decide) (fun V1 f1 => ?_))))))
  dsimp only
  refine ⟨is9, im_st s rfl (by omega) (by decide) ⟨is9, im_st s rfl (by omega) (by decide) ?_⟩⟩
  rw [fw, fh, pk_sub (Nat.le_of_lt ha), pk_sub (Nat.le_of_lt hb)]
  refine im_yC63 (nw := w - a) (nh := h - b) (by omega) (by omega) (by omega) pk_us pk_us (fun V3 f2 => ⟨rfl, ?_, im_fdK I.2 (fun f hf => ⟨pk_un (by omega), pk_un (by omega)⟩)⟩)
  have G := im_yG (W2 := upd (upd W' 8 (W' s)) s (nI (w - a))) (H2 := upd (upd H' 8 (H' s)) s (nI (h - b))) (by omega) Y f1 f2 pk_us pk_us (fun t ht t8 => ⟨(pk_un ht).trans (pk_un (by omega)), (pk_un ht).trans (pk_un (by omega))⟩)
  refine im_put A ⟨by omega, by omega, by omega, by omega⟩ c d ⟨G.1.1, G.1.2.1, G.1.2.2.1, fun y x hy hx => ?_⟩ G.2
  refine (G.1.2.2.2 y x hy hx).trans ?_
  show V1 (512 + (8 * (y + b) + (x + a))) = p (y + b) (x + a)
  exact (f1.1 (8 * (y + b) + (x + a)) (by omega)).trans (Y.2.2.2 _ _ (by omega) (by omega))
theorem i_vc_shrink {k : Nat} {u : SX} {v : SY} (I : i_Rel k u v) (hk : k + 5 ≤ 2560) (v1 : Int32) (v2 : Int32) (v3 : Int32) : wpX_shrink (fun r u' => wpY_shrink (fun r' v' => r' = r ∧ i_Rel (k + 5) u' v') v v1 v2 v3) u v1 v2 v3 := by
  obtain ⟨W, H, V, F, D, U⟩ := u
  obtain ⟨V', W', H', T, D', F'⟩ := v
  have R : i_Rel (k + 5) (W, H, V, F, D, U) (V', W', H', T, D', F') := I
  have A : im_All W H V V' W' H' T := I.1
  unfold wpX_shrink; dsimp only
  rcases im_num v1 with h1 | ⟨s, hs, rfl⟩
  · refine im_xIfU h1 (br_f im_m1 ?_)
    unfold wpY_shrink; dsimp only
    exact im_yUn h1 (br_f im_10 ⟨rfl, R⟩)
  rcases A s (by omega) with ⟨e1, e2, e3⟩ | ⟨w, h, p, bd, X, Y⟩
  · refine im_xIfN hs e1 (br_f im_m2 ?_)
    unfold wpY_shrink; dsimp only
    exact im_yUk hs (br_t rfl (im_yTn (by omega) e3 ⟨rfl, R⟩))
  have bd' := bd
  obtain ⟨w0, w8, h0, h8⟩ := bd'
  have is8 : vp_in (nI s) 8 := vp_in_nI (by omega) (by decide)
  have is9 : vp_in (nI s) 9 := vp_in_nI (by omega) (by decide)
  have ew : W (nI s).toNatClampNeg = nI w := by rw [nI_clamp (by omega)]; exact X.1
  have eh : H (nI s).toNatClampNeg = nI h := by rw [nI_clamp (by omega)]; exact X.2.1
  have fw : W' (nI s).toNatClampNeg = nI w := by rw [nI_clamp (by omega)]; exact Y.2.1
  have fh : H' (nI s).toNatClampNeg = nI h := by rw [nI_clamp (by omega)]; exact Y.2.2.1
  refine im_xIfP hs X.1 w0 w8 (br_t rfl ⟨is8, ?_⟩)
  rw [ew, eh]
  rcases im_side v2 w (by omega) with b2 | ⟨a, a0, aw, rfl⟩
  · refine im_xSn b2 (br_f im_10 ?_)
    unfold wpY_shrink; dsimp only
    rw [fw, fh]
    exact im_yUk hs (br_t rfl (im_yTp (by omega) Y.1 (br_c (fun _ => ⟨rfl, R⟩) (fun z => ⟨is9, br_t (Int32.not_le.mp (b2.resolve_left z)) ⟨rfl, R⟩⟩))))
  have a1 : ¬ nI a < 1 := im_n1 a0 (by omega)
  have a2 : nI a ≤ nI w := nI_le aw (by omega)
  have a3 : ¬ nI w < nI a := nI_nlt aw (by omega)
  refine im_xSk a1 a2 (br_t rfl ⟨is8, ?_⟩)
  rcases im_side v3 h (by omega) with b3 | ⟨b, b0, bh, rfl⟩
  · refine im_xSn b3 (br_f im_10 ?_)
    unfold wpY_shrink; dsimp only
    rw [fw, fh]
    exact im_yUk hs (br_t rfl (im_yTp (by omega) Y.1 (br_f a1 ⟨is9, br_f a3 (br_c (fun _ => ⟨rfl, R⟩) (fun z => ⟨is9, br_f (b3.resolve_left z) ⟨rfl, R⟩⟩))⟩)))
  have c1 : ¬ nI b < 1 := im_n1 b0 (by omega)
  have c2 : nI b ≤ nI h := nI_le bh (by omega)
  refine im_xSk c1 c2 (br_t rfl (im_xKp (a := 0) (b := 0) (by omega) bd (by omega) (by omega) X (fun V2 c d => im_xPl (w := a) (h := b) (by omega) pk_us pk_us ?_)))
  unfold wpY_shrink; dsimp only
  rw [fw, fh]
  refine im_yUk hs (br_t rfl (im_yTp (by omega) Y.1 (br_f a1 ⟨is9, br_f a3 (br_f c1 ⟨is9, br_t c2 (im_st s rfl (by omega) (by decide) (im_st s rfl (by omega) (by decide) (im_yPl (w := a) (h := b) (by omega) pk_us pk_us ⟨rfl, ?_, I.2⟩)))⟩)⟩)))
  exact im_put A ⟨a0, by omega, b0, by omega⟩ c d ⟨Y.1, pk_us, pk_us, fun y x hy hx => Y.2.2.2 y x (by omega) (by omega)⟩ ⟨fun t ht _ => ⟨pk_un ht, pk_un ht, rfl⟩, fun _ _ _ => rfl⟩
theorem i_vc_copy {k : Nat} {u : SX} {v : SY} (I : i_Rel k u v) (hk : k + 5 ≤ 2560) (v1 : Int32) (v2 : Int32) : wpX_copy (fun r u' => wpY_copy (fun r' v' => r' = r ∧ i_Rel (k + 5) u' v') v v1 v2) u v1 v2 := by
  obtain ⟨W, H, V, F, D, U⟩ := u
  obtain ⟨V', W', H', T, D', F'⟩ := v
  have R : i_Rel (k + 5) (W, H, V, F, D, U) (V', W', H', T, D', F') := I
  have A : im_All W H V V' W' H' T := I.1
  unfold wpX_copy; dsimp only
  rcases im_num v1 with h1 | ⟨s, hs, rfl⟩
  · refine im_xUn h1 (br_f im_10 ?_)
    unfold wpY_copy; dsimp only
    exact im_yUn h1 (br_f im_10 ⟨rfl, R⟩)
  rcases im_num v2 with h2 | ⟨t, ht, rfl⟩
  · refine im_xUk hs (br_t rfl (im_xUn h2 (br_f im_10 ?_)))
    unfold wpY_copy; dsimp only
    exact im_yUk hs (br_t rfl (im_yUn h2 (br_f im_10 ⟨rfl, R⟩)))
  rcases A s (by omega) with ⟨e1, e2, e3⟩ | ⟨w, h, p, bd, X, Y⟩
  · refine im_xUk hs (br_t rfl (im_xUk ht (br_t rfl (im_xAbT (by omega) e1 (br_f im_10 ?_)))))
    unfold wpY_copy; dsimp only
    exact im_yUk hs (br_t rfl (im_yUk ht (br_t rfl (im_yTn (by omega) e3 ⟨rfl, R⟩))))
  have w8 := bd.2.1
  refine im_xUk hs (br_t rfl (im_xUk ht (br_t rfl (im_xAbF (by omega) (by rw [X.1]; exact nI_ne0 bd.1 (by omega)) (br_t rfl (im_xCs (by omega) (by omega) bd X.1 X.2.1 (fun V2 f => im_xPl (w := w) (h := h) (by omega) (pk_us.trans X.1) (pk_us.trans X.2.1) ?_)))))))
  unfold wpY_copy; dsimp only
  refine im_yUk hs (br_t rfl (im_yUk ht (br_t rfl (im_yTp (by omega) Y.1 (im_yBc (by omega) (by omega) (fun V3 g => im_yPl (w := w) (h := h) (by omega) (pk_us.trans Y.2.1) (pk_us.trans Y.2.2.1) ⟨rfl, ?_, im_fdK I.2 (fun f hf => ⟨pk_un (by omega), pk_un (by omega)⟩)⟩))))))
  exact im_put A bd (im_copyX bd X rfl f).1 (im_copyX bd X rfl f).2 (im_copyY bd Y g).1 (im_copyY bd Y g).2
theorem i_vc_save {k : Nat} {u : SX} {v : SY} (I : i_Rel k u v) (hk : k + 5 ≤ 2560) (v1 : Int32) (v2 : Int32) (v3 : Int32) : wpX_save (fun r u' => wpY_save (fun r' v' => r' = r ∧ i_Rel (k + 5) u' v') v v1 v2 v3) u v1 v2 v3 := by
  obtain ⟨W, H, V, F, D, U⟩ := u
  obtain ⟨V', W', H', T, D', F'⟩ := v
  have R : i_Rel (k + 5) (W, H, V, F, D, U) (V', W', H', T, D', F') := I
  have A : im_All W H V V' W' H' T := I.1
  unfold wpX_save; dsimp only
  rcases im_num v1 with h1 | ⟨s, hs, rfl⟩
  · refine im_xUn h1 (br_f im_10 ?_)
    unfold wpY_save; dsimp only
    exact im_yUn h1 (br_f im_10 ⟨rfl, R⟩)
  rcases im_num v2 with h2 | ⟨t, ht, rfl⟩
  · refine im_xUk hs (br_t rfl (im_xUn h2 (br_f im_10 ?_)))
    unfold wpY_save; dsimp only
    exact im_yUk hs (br_t rfl (im_yUn h2 (br_f im_10 ⟨rfl, R⟩)))
  rcases im_num v3 with h3 | ⟨q, hq, rfl⟩
  · refine im_xUk hs (br_t rfl (im_xUk ht (br_t rfl (im_xUn h3 (br_f im_10 ?_)))))
    unfold wpY_save; dsimp only
    exact im_yUk hs (br_t rfl (im_yUk ht (br_t rfl (im_yUn h3 (br_f im_10 ⟨rfl, R⟩)))))
  rcases A s (by omega) with ⟨e1, e2, e3⟩ | ⟨w, h, p, bd, X, Y⟩
  · refine im_xUk hs (br_t rfl (im_xUk ht (br_t rfl (im_xUk hq (br_t rfl (im_xAbT (by omega) e1 (br_f im_10 ?_)))))))
    unfold wpY_save; dsimp only
    exact im_yUk hs (br_t rfl (im_yUk ht (br_t rfl (im_yUk hq (br_t rfl (im_yTn (by omega) e3 ⟨rfl, R⟩))))))
  have w8 := bd.2.1
  refine im_xUk hs (br_t rfl (im_xUk ht (br_t rfl (im_xUk hq (br_t rfl (im_xAbF (by omega) (by rw [X.1]; exact nI_ne0 bd.1 (by omega)) (br_t rfl (im_xWf (by omega) ht bd X.1 X.2.1 (fun V2 f => ?_)))))))))
  dsimp only
  unfold wpY_save; dsimp only
  rw [im_e4]
  refine im_yUk hs (br_t rfl (im_yUk ht (br_t rfl (im_yUk hq (br_t rfl (im_yTp (by omega) Y.1 (im_yBc (by omega) (by omega) (fun V3 g => ?_))))))))
  dsimp only
  refine im_st (4 + t) rfl (by omega) (by decide) (im_st (4 + t) rfl (by omega) (by decide) (im_yPl (w := w) (h := h) (by omega) (im_us.trans Y.2.1) (im_us.trans Y.2.2.1) ⟨rfl, ?_, ?_⟩))
  · exact im_put A bd (im_copyX bd X rfl f).1 (im_copyX bd X rfl f).2 (im_copyY bd Y g).1 (im_copyY bd Y g).2
  · exact im_fdU I.2 (Or.inl rfl) pk_us (pk_us.trans im_vb0) (fun j hj => ⟨(pk_un hj).trans (pk_un hj), (pk_un hj).trans (pk_un hj)⟩)
