/-! load, convert, damage, cut, duplicate -/
theorem i_vc_load {k : Nat} {u : SX} {v : SY} (I : i_Rel k u v) (hk : k + 5 ≤ 2560) (v1 : Int32) (v2 : Int32) : wpX_load (fun r u' => wpY_load (fun r' v' => r' = r ∧ i_Rel (k + 5) u' v') v v1 v2) u v1 v2 := by
  obtain ⟨W, H, V, F, D, U⟩ := u
  obtain ⟨V', W', H', T, D', F'⟩ := v
  have R : i_Rel (k + 5) (W, H, V, F, D, U) (V', W', H', T, D', F') := I
  have A : im_All W H V V' W' H' T := I.1
  unfold wpX_load; dsimp only
  rcases im_num v1 with h1 | ⟨s, hs, rfl⟩
  · refine im_xUn h1 (br_f im_10 ?_)
    unfold wpY_load; dsimp only
    exact im_yUn h1 (br_f im_10 ⟨rfl, R⟩)
  rcases im_num v2 with h2 | ⟨t, ht, rfl⟩
  · refine im_xUk hs (br_t rfl (im_xUn h2 (br_f im_10 ?_)))
    unfold wpY_load; dsimp only
    exact im_yUk hs (br_t rfl (im_yUn h2 (br_f im_10 ⟨rfl, R⟩)))
  rw [im_e4]
  rcases A (4 + s) (by omega) with ⟨e1, e2, e3⟩ | ⟨w, h, p, bd, X, Y⟩
  · refine im_xUk hs (br_t rfl (im_xUk ht (br_t rfl (im_xFfN hs e1 (br_f im_m2 ?_)))))
    unfold wpY_load; dsimp only
    exact im_yUk hs (br_t rfl (im_yUk ht (br_t rfl (im_yCkN hs e3 (br_f im_m2 ⟨rfl, R⟩)))))
  have w8 := bd.2.1
  have d1 : D s = D' (4 + s) := (I.2 s hs).2.1
  by_cases d0 : D s = 0
  · refine im_xUk hs (br_t rfl (im_xUk ht (br_t rfl (im_xFfP hs X.1 bd.1 w8 d0 (br_t rfl (im_xCs (by omega) (by omega) bd X.1 X.2.1 (fun V2 f => im_xPl (w := w) (h := h) (by omega) (pk_us.trans X.1) (pk_us.trans X.2.1) ?_)))))))
    unfold wpY_load; dsimp only
    rw [im_e4]
    refine im_yUk hs (br_t rfl (im_yUk ht (br_t rfl (im_yCkP hs Y.1 (d1.symm.trans d0) (br_t rfl (im_yBc (by omega) (by omega) (fun V3 g => im_yPl (w := w) (h := h) (by omega) (pk_us.trans Y.2.1) (pk_us.trans Y.2.2.1) ⟨rfl, ?_, im_fdK I.2 (fun f hf => ⟨pk_un (by omega), pk_un (by omega)⟩)⟩)))))))
    exact im_put A bd (im_copyX bd X rfl f).1 (im_copyX bd X rfl f).2 (im_copyY bd Y g).1 (im_copyY bd Y g).2
  · refine im_xUk hs (br_t rfl (im_xUk ht (br_t rfl (im_xFfB hs X.1 bd.1 w8 d0 (br_f im_m3 ?_)))))
    unfold wpY_load; dsimp only
    exact im_yUk hs (br_t rfl (im_yUk ht (br_t rfl (im_yCkB hs Y.1 (by rw [← d1]; exact d0) (br_f im_m3 ⟨rfl, R⟩)))))
theorem i_vc_convert {k : Nat} {u : SX} {v : SY} (I : i_Rel k u v) (hk : k + 5 ≤ 2560) (v1 : Int32) (v2 : Int32) (v3 : Int32) : wpX_convert (fun r u' => wpY_convert (fun r' v' => r' = r ∧ i_Rel (k + 5) u' v') v v1 v2 v3) u v1 v2 v3 := by
  obtain ⟨W, H, V, F, D, U⟩ := u
  obtain ⟨V', W', H', T, D', F'⟩ := v
  have R : i_Rel (k + 5) (W, H, V, F, D, U) (V', W', H', T, D', F') := I
  have A : im_All W H V V' W' H' T := I.1
  unfold wpX_convert; dsimp only
  rcases im_num v1 with h1 | ⟨s, hs, rfl⟩
  · refine im_xUn h1 (br_f im_10 ?_)
    unfold wpY_convert; dsimp only
    exact im_yUn h1 (br_f im_10 ⟨rfl, R⟩)
  rcases im_num v2 with h2 | ⟨t, ht, rfl⟩
  · refine im_xUk hs (br_t rfl (im_xUn h2 (br_f im_10 ?_)))
    unfold wpY_convert; dsimp only
    exact im_yUk hs (br_t rfl (im_yUn h2 (br_f im_10 ⟨rfl, R⟩)))
  rcases im_num v3 with h3 | ⟨q, hq, rfl⟩
  · refine im_xUk hs (br_t rfl (im_xUk ht (br_t rfl (im_xUn h3 (br_f im_10 ?_)))))
    unfold wpY_convert; dsimp only
    exact im_yUk hs (br_t rfl (im_yUk ht (br_t rfl (im_yUn h3 (br_f im_10 ⟨rfl, R⟩)))))
  rw [im_e4]
  rcases A (4 + s) (by omega) with ⟨e1, e2, e3⟩ | ⟨w, h, p, bd, X, Y⟩
  · refine im_xUk hs (br_t rfl (im_xUk ht (br_t rfl (im_xUk hq (br_t rfl (im_xFfN hs e1 (br_f im_m2 ?_)))))))
    unfold wpY_convert; dsimp only
    exact im_yUk hs (br_t rfl (im_yUk ht (br_t rfl (im_yUk hq (br_t rfl (im_yCkN hs e3 (br_f im_m2 ⟨rfl, R⟩)))))))
  have w8 := bd.2.1
  have d1 : D s = D' (4 + s) := (I.2 s hs).2.1
  by_cases d0 : D s = 0
  · refine im_xUk hs (br_t rfl (im_xUk ht (br_t rfl (im_xUk hq (br_t rfl (im_xFfP hs X.1 bd.1 w8 d0 (br_t rfl (im_xWf (by omega) ht bd X.1 X.2.1 (fun V2 f => ?_)))))))))
    dsimp only
    unfold wpY_convert; dsimp only
    rw [im_e4, im_e4]
    refine im_yUk hs (br_t rfl (im_yUk ht (br_t rfl (im_yUk hq (br_t rfl (im_yCkP hs Y.1 (d1.symm.trans d0) (br_t rfl (im_yBc (by omega) (by omega) (fun V3 g => ?_)))))))))
    dsimp only
    refine im_st (4 + t) rfl (by omega) (by decide) (im_yPl (w := w) (h := h) (by omega) (pk_us.trans Y.2.1) (pk_us.trans Y.2.2.1) ⟨rfl, ?_, ?_⟩)
    · exact im_put A bd (im_copyX bd X rfl f).1 (im_copyX bd X rfl f).2 (im_copyY bd Y g).1 (im_copyY bd Y g).2
    · exact im_fdU I.2 (Or.inl rfl) pk_us (pk_us.trans (by rw [← d1, d0]; exact im_vb0)) (fun j hj => ⟨pk_un hj, (pk_un hj).trans (pk_un hj)⟩)
  · refine im_xUk hs (br_t rfl (im_xUk ht (br_t rfl (im_xUk hq (br_t rfl (im_xFfB hs X.1 bd.1 w8 d0 (br_f im_m3 ?_)))))))
    unfold wpY_convert; dsimp only
    exact im_yUk hs (br_t rfl (im_yUk ht (br_t rfl (im_yUk hq (br_t rfl (im_yCkB hs Y.1 (by rw [← d1]; exact d0) (br_f im_m3 ⟨rfl, R⟩)))))))
theorem im_spoil {k : Nat} {u : SX} {v : SY} (I : i_Rel k u v) (v1 : Int32) : wpX_spoil (fun r u' => wpY_spoil (fun r' v' => r' = r ∧ i_Rel (k + 5) u' v') v v1) u v1 := by
  obtain ⟨W, H, V, F, D, U⟩ := u
  obtain ⟨V', W', H', T, D', F'⟩ := v
  have R : i_Rel (k + 5) (W, H, V, F, D, U) (V', W', H', T, D', F') := I
  have A : im_All W H V V' W' H' T := I.1
  unfold wpX_spoil; dsimp only
  rcases im_num v1 with h1 | ⟨s, hs, rfl⟩
  · refine im_xFfU h1 (br_f im_m1 ?_)
    unfold wpY_spoil; dsimp only
    exact im_yUn h1 (br_f im_10 ⟨rfl, R⟩)
  rcases A (4 + s) (by omega) with ⟨e1, e2, e3⟩ | ⟨w, h, p, bd, X, Y⟩
  · refine im_xFfN hs e1 (br_f im_m2 ?_)
    unfold wpY_spoil; dsimp only
    exact im_yUk hs (br_t rfl (im_yCkN hs e3 (br_f im_m2 ⟨rfl, R⟩)))
  have w8 := bd.2.1
  have d1 : D s = D' (4 + s) := (I.2 s hs).2.1
  by_cases d0 : D s = 0
  · refine im_xFfP hs X.1 bd.1 w8 d0 (br_t rfl (im_st s rfl hs (by decide) ?_))
    unfold wpY_spoil; dsimp only
    rw [im_e4]
    refine im_yUk hs (br_t rfl (im_yCkP hs Y.1 (d1.symm.trans d0) (br_t rfl (im_st (4 + s) rfl (by omega) (by decide) ⟨rfl, A, ?_⟩))))
    rw [im_vb1]
    intro f hf
    by_cases e : f = s
    · subst e
      exact ⟨(I.2 f hf).1, pk_us.trans pk_us.symm, Or.inr pk_us⟩
    · have e4 : 4 + f ≠ 4 + s := by omega
      exact ⟨(I.2 f hf).1, (pk_un e).trans ((I.2 f hf).2.1.trans (pk_un e4).symm), (I.2 f hf).2.2.elim (fun z => Or.inl ((pk_un e).trans z)) (fun z => Or.inr ((pk_un e).trans z))⟩
  · refine im_xFfB hs X.1 bd.1 w8 d0 (br_f im_m3 ?_)
    unfold wpY_spoil; dsimp only
    exact im_yUk hs (br_t rfl (im_yCkB hs Y.1 (by rw [← d1]; exact d0) (br_f im_m3 ⟨rfl, R⟩)))
theorem i_vc_damage {k : Nat} {u : SX} {v : SY} (I : i_Rel k u v) (hk : k + 5 ≤ 2560) (v1 : Int32) (v2 : Int32) : wpX_damage (fun r u' => wpY_damage (fun r' v' => r' = r ∧ i_Rel (k + 5) u' v') v v1 v2) u v1 v2 := by
  unfold wpX_damage wpY_damage
  exact im_spoil I v1
theorem i_vc_cut {k : Nat} {u : SX} {v : SY} (I : i_Rel k u v) (hk : k + 5 ≤ 2560) (v1 : Int32) (v2 : Int32) : wpX_cut (fun r u' => wpY_cut (fun r' v' => r' = r ∧ i_Rel (k + 5) u' v') v v1 v2) u v1 v2 := by
  unfold wpX_cut wpY_cut
  exact im_spoil I v1
theorem i_vc_duplicate {k : Nat} {u : SX} {v : SY} (I : i_Rel k u v) (hk : k + 5 ≤ 2560) (v1 : Int32) (v2 : Int32) : wpX_duplicate (fun r u' => wpY_duplicate (fun r' v' => r' = r ∧ i_Rel (k + 5) u' v') v v1 v2) u v1 v2 := by
  obtain ⟨W, H, V, F, D, U⟩ := u
  obtain ⟨V', W', H', T, D', F'⟩ := v
  have R : i_Rel (k + 5) (W, H, V, F, D, U) (V', W', H', T, D', F') := I
  have A : im_All W H V V' W' H' T := I.1
  unfold wpX_duplicate; dsimp only
  rcases im_num v1 with h1 | ⟨s, hs, rfl⟩
  · refine im_xUn h1 (br_f im_10 ?_)
    unfold wpY_duplicate; dsimp only
    exact im_yUn h1 (br_f im_10 ⟨rfl, R⟩)
  rcases im_num v2 with h2 | ⟨t, ht, rfl⟩
  · refine im_xUk hs (br_t rfl (im_xUn h2 (br_f im_10 ?_)))
    unfold wpY_duplicate; dsimp only
    exact im_yUk hs (br_t rfl (im_yUn h2 (br_f im_10 ⟨rfl, R⟩)))
  rw [im_e4, im_e4]
  rcases A (4 + s) (by omega) with ⟨e1, e2, e3⟩ | ⟨w, h, p, bd, X, Y⟩
  · refine im_xUk hs (br_t rfl (im_xUk ht (br_t rfl (im_xAbT (by omega) e1 (br_f im_10 ?_)))))
    unfold wpY_duplicate; dsimp only
    rw [im_e4, im_e4]
    exact im_yUk hs (br_t rfl (im_yUk ht (br_t rfl (im_yTn (by omega) e3 ⟨rfl, R⟩))))
  have w8 := bd.2.1
  have G : im_FD F D D' F' := I.2
  obtain ⟨q1, q2, q3⟩ := G s hs
  have is4 : vp_in (nI s) 4 := vp_in_nI hs (by decide)
  refine im_xUk hs (br_t rfl (im_xUk ht (br_t rfl (im_xAbF (by omega) (by rw [X.1]; exact nI_ne0 bd.1 (by omega)) (br_t rfl (im_xCs (by omega) (by omega) bd X.1 X.2.1 (fun V2 f => ⟨is4, im_st t rfl ht (by decide) ⟨is4, im_st t rfl ht (by decide) ?_⟩⟩)))))))
  dsimp only
  rw [nI_clamp (n := s) (by omega), im_vb q3]
  unfold wpY_duplicate; dsimp only
  rw [im_e4, im_e4]
  refine im_yUk hs (br_t rfl (im_yUk ht (br_t rfl (im_yTp (by omega) Y.1 (im_yBc (by omega) (by omega) (fun V3 g => ⟨rfl, ?_, ?_⟩))))))
  · exact im_put A bd (im_copyX bd X rfl f).1 (im_copyX bd X rfl f).2 (im_copyY bd Y g).1 (im_copyY bd Y g).2
  · exact im_fdU I.2 q3 (pk_us.trans q1.symm) (pk_us.trans (by rw [← q2]; exact im_vb q3)) (fun j hj => ⟨pk_un hj, pk_un hj⟩)
