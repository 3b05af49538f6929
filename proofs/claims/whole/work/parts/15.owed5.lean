/-! image, file, same -/
theorem i_vc_image {k : Nat} {u : SX} {v : SY} (I : i_Rel k u v) (hk : k + 5 ≤ 2560) (v1 : Int32) (v2 : Int32) : wpX_image (fun r => wpY_image (fun r' => r' = r ∧ i_Rel (k + 5) u v) v v1 v2) u v1 v2 := by
  obtain ⟨W, H, V, F, D, U⟩ := u
  obtain ⟨V', W', H', T, D', F'⟩ := v
  have R : i_Rel (k + 5) (W, H, V, F, D, U) (V', W', H', T, D', F') := I
  have A : im_All W H V V' W' H' T := I.1
  unfold wpX_image; dsimp only
  rcases im_num v1 with h1 | ⟨s, hs, rfl⟩
  · refine im_xUn h1 (br_f im_10 ?_)
    unfold wpY_image; dsimp only
    exact im_yUn h1 (br_f im_10 ⟨rfl, R⟩)
  have is8 : vp_in (nI s) 8 := vp_in_nI (by omega) (by decide)
  have is9 : vp_in (nI s) 9 := vp_in_nI (by omega) (by decide)
  refine im_xUk hs (br_t rfl ?_)
  by_cases n0 : v2 < 0
  · refine br_t n0 ?_
    unfold wpY_image; dsimp only
    exact im_yUk hs (br_t rfl (br_t n0 ⟨rfl, R⟩))
  by_cases n2 : v2 ≤ 2
  · have n2' : ¬ 2 < v2 := Int32.not_lt.mpr n2
    refine br_f n0 (br_f n2' ?_)
    have cs : v2 = 0 ∨ v2 = 1 ∨ v2 = 2 := by
      obtain ⟨j, hj, rfl⟩ := nI_of2 (n := 2) (by decide) n0 n2
      have : j = 0 ∨ j = 1 ∨ j = 2 := by omega
      rcases this with rfl | rfl | rfl
      · exact Or.inl rfl
      · exact Or.inr (Or.inl rfl)
      · exact Or.inr (Or.inr rfl)
    have ns : (nI s).toNatClampNeg = s := nI_clamp (by omega)
    rcases A s (by omega) with ⟨e1, e2, e3⟩ | ⟨w, h, p, bd, X, Y⟩
    · have y0 : wpY_image (fun r' => r' = 0 ∧ i_Rel (k + 5) (W, H, V, F, D, U) (V', W', H', T, D', F')) (V', W', H', T, D', F') (nI s) v2 := by
        unfold wpY_image; dsimp only
        exact im_yUk hs (br_t rfl (br_f n0 (br_t n2 (im_yTn (by omega) e3 ⟨rfl, R⟩))))
      rw [ns, e1, e2]
      exact br_c (fun _ => im_xAbT (by omega) e1 (br_f im_10 y0)) (fun _ => br_c (fun _ => ⟨is8, y0⟩) (fun _ => br_c (fun _ => ⟨is8, y0⟩) (fun _ => trivial)))
    · have w8 := bd.2.1
      rw [ns, X.1, X.2.1]
      rcases cs with rfl | rfl | rfl
      · refine br_t rfl (im_xAbF (by omega) (by rw [X.1]; exact nI_ne0 bd.1 (by omega)) (br_t rfl ?_))
        unfold wpY_image; dsimp only
        exact im_yUk hs (br_t rfl (br_f n0 (br_t n2 (im_yTp (by omega) Y.1 (br_t rfl ⟨rfl, R⟩)))))
      · refine br_f (by decide) (br_t rfl ⟨is8, ?_⟩)
        unfold wpY_image; dsimp only
        exact im_yUk hs (br_t rfl (br_f n0 (br_t n2 (im_yTp (by omega) Y.1 (br_f (by decide) (br_t rfl ⟨is9, by rw [ns]; exact Y.2.1, R⟩))))))
      · refine br_f (by decide) (br_f (by decide) (br_t rfl ⟨is8, ?_⟩))
        unfold wpY_image; dsimp only
        exact im_yUk hs (br_t rfl (br_f n0 (br_t n2 (im_yTp (by omega) Y.1 (br_f (by decide) (br_f (by decide) ⟨is9, by rw [ns]; exact Y.2.2.1, R⟩))))))
  · refine br_f n0 (br_t (Int32.not_le.mp n2) ?_)
    unfold wpY_image; dsimp only
    exact im_yUk hs (br_t rfl (br_f n0 (br_f n2 ⟨rfl, R⟩)))
theorem im_q4 {j : Nat} (hj : j < 4) : nI j = 0 ∨ nI j = 1 ∨ nI j = 2 ∨ nI j = 3 := by
  have : j = 0 ∨ j = 1 ∨ j = 2 ∨ j = 3 := by omega
  rcases this with rfl | rfl | rfl | rfl
  · exact Or.inl rfl
  · exact Or.inr (Or.inl rfl)
  · exact Or.inr (Or.inr (Or.inl rfl))
  · exact Or.inr (Or.inr (Or.inr rfl))
theorem i_vc_file {k : Nat} {u : SX} {v : SY} (I : i_Rel k u v) (hk : k + 5 ≤ 2560) (v1 : Int32) (v2 : Int32) : wpX_file (fun r => wpY_file (fun r' => r' = r ∧ i_Rel (k + 5) u v) v v1 v2) u v1 v2 := by
  obtain ⟨W, H, V, F, D, U⟩ := u
  obtain ⟨V', W', H', T, D', F'⟩ := v
  have R : i_Rel (k + 5) (W, H, V, F, D, U) (V', W', H', T, D', F') := I
  have A : im_All W H V V' W' H' T := I.1
  have G : im_FD F D D' F' := I.2
  unfold wpX_file; dsimp only
  rcases im_num v1 with h1 | ⟨s, hs, rfl⟩
  · refine im_xUn h1 (br_f im_10 ?_)
    unfold wpY_file; dsimp only
    exact im_yUn h1 (br_f im_10 ⟨rfl, R⟩)
  refine im_xUk hs (br_t rfl ?_)
  rcases im_num v2 with h2 | ⟨j, hj, rfl⟩
  · have y0 : wpY_file (fun r' => r' = -1 ∧ i_Rel (k + 5) (W, H, V, F, D, U) (V', W', H', T, D', F')) (V', W', H', T, D', F') (nI s) v2 := by
      unfold wpY_file; dsimp only
      exact im_yUk hs (br_t rfl (im_yUn h2 (br_f im_10 ⟨rfl, R⟩)))
    exact br_c (fun _ => y0) (fun z => br_f (im_nle3 (h2.resolve_left z)) y0)
  obtain ⟨q1, q2, q3⟩ := G s hs
  have ns : (nI s).toNatClampNeg = s := nI_clamp (by omega)
  have n4 : (nI (4 + s)).toNatClampNeg = 4 + s := nI_clamp (by omega)
  have i4 : vp_in (nI s) 4 := vp_in_nI hs (by decide)
  have i8 : vp_in (nI (4 + s)) 8 := vp_in_nI (by omega) (by decide)
  have i9 : vp_in (nI (4 + s)) 9 := vp_in_nI (by omega) (by decide)
  refine br_f (nI_pos (by omega)) (br_t (nI_le (b := 3) (by omega) (by decide)) ?_)
  rw [im_e4, n4, ns]
  rcases A (4 + s) (by omega) with ⟨e1, e2, e3⟩ | ⟨w, h, p, bd, X, Y⟩
  · have y0 : wpY_file (fun r' => r' = 0 ∧ i_Rel (k + 5) (W, H, V, F, D, U) (V', W', H', T, D', F')) (V', W', H', T, D', F') (nI s) (nI j) := by
      unfold wpY_file; dsimp only
      exact im_yUk hs (br_t rfl (im_yUk hj (br_t rfl (nm_r (im_e4 s) (br_c (fun _ => im_yTn (by omega) e3 ⟨rfl, R⟩) (fun _ => im_yTn (by omega) e3 ⟨rfl, R⟩))))))
    exact im_xFfN hs e1 (br_c (fun _ => br_t rfl y0) (fun _ => br_f im_m2 y0))
  have w8 := bd.2.1
  by_cases d0 : D s = 0
  · have d0' : D' (nI (4 + s)).toNatClampNeg = 0 := by rw [n4, ← q2]; exact d0
    refine im_xFfP hs X.1 bd.1 w8 d0 ?_
    rcases im_q4 hj with e | e | e | e
    · rw [e]
      refine br_t rfl (br_f (by decide) (br_f (by decide) ?_))
      unfold wpY_file; dsimp only
      exact im_yUk hs (br_t rfl (im_yUk (s := 0) (by decide) (br_t rfl (nm_r (im_e4 s) (br_t rfl (im_yTp (by omega) Y.1 ⟨i9, br_t d0' ⟨rfl, R⟩⟩))))))
    · rw [e]
      refine br_f (by decide) (br_t rfl (br_t rfl ⟨i4, ?_⟩))
      unfold wpY_file; dsimp only
      exact im_yUk hs (br_t rfl (im_yUk (s := 1) (by decide) (br_t rfl (nm_r (im_e4 s) (br_f (by decide) (im_yTp (by omega) Y.1 ⟨i9, br_t d0' (br_t rfl ⟨i9, by rw [n4]; exact q1.symm, R⟩)⟩))))))
    · rw [e]
      refine br_f (by decide) (br_t rfl (br_f (by decide) (br_t rfl ⟨i8, ?_⟩)))
      unfold wpY_file; dsimp only
      exact im_yUk hs (br_t rfl (im_yUk (s := 2) (by decide) (br_t rfl (nm_r (im_e4 s) (br_f (by decide) (im_yTp (by omega) Y.1 ⟨i9, br_t d0' (br_f (by decide) (br_t rfl ⟨i9, by rw [n4]; exact Y.2.1.trans X.1.symm, R⟩))⟩))))))
    · rw [e]
      refine br_f (by decide) (br_t rfl (br_f (by decide) (br_f (by decide) ⟨i8, ?_⟩)))
      unfold wpY_file; dsimp only
      exact im_yUk hs (br_t rfl (im_yUk (s := 3) (by decide) (br_t rfl (nm_r (im_e4 s) (br_f (by decide) (im_yTp (by omega) Y.1 ⟨i9, br_t d0' (br_f (by decide) (br_f (by decide) ⟨i9, by rw [n4]; exact Y.2.2.1.trans X.2.1.symm, R⟩))⟩))))))
  · have d0' : ¬ D' (nI (4 + s)).toNatClampNeg = 0 := by rw [n4, ← q2]; exact d0
    refine im_xFfB hs X.1 bd.1 w8 d0 (br_c (fun z => br_f (by decide) (br_t rfl ?_)) (fun z => br_f im_m3 ?_))
    · unfold wpY_file; dsimp only
      exact im_yUk hs (br_t rfl (im_yUk hj (br_t rfl (nm_r (im_e4 s) (br_t z (im_yTp (by omega) Y.1 ⟨i9, br_f d0' ⟨rfl, R⟩⟩))))))
    · unfold wpY_file; dsimp only
      exact im_yUk hs (br_t rfl (im_yUk hj (br_t rfl (nm_r (im_e4 s) (br_f z (im_yTp (by omega) Y.1 ⟨i9, br_f d0' ⟨rfl, R⟩⟩))))))
theorem i_vc_same {k : Nat} {u : SX} {v : SY} (I : i_Rel k u v) (hk : k + 5 ≤ 2560) (v1 : Int32) (v2 : Int32) : wpX_same (fun r => wpY_same (fun r' => r' = r ∧ i_Rel (k + 5) u v) v v1 v2) u v1 v2 := by
  obtain ⟨W, H, V, F, D, U⟩ := u
  obtain ⟨V', W', H', T, D', F'⟩ := v
  have R : i_Rel (k + 5) (W, H, V, F, D, U) (V', W', H', T, D', F') := I
  have A : im_All W H V V' W' H' T := I.1
  unfold wpX_same; dsimp only
  rcases im_num v1 with h1 | ⟨a, ha, rfl⟩
  · refine im_xUn h1 (br_f im_10 ?_)
    unfold wpY_same; dsimp only
    exact im_yUn h1 (br_f im_10 ⟨rfl, R⟩)
  rcases im_num v2 with h2 | ⟨b, hb, rfl⟩
  · refine im_xUk ha (br_t rfl (im_xUn h2 (br_f im_10 ?_)))
    unfold wpY_same; dsimp only
    exact im_yUk ha (br_t rfl (im_yUn h2 (br_f im_10 ⟨rfl, R⟩)))
  refine im_xUk ha (br_t rfl (im_xUk hb (br_t rfl ?_)))
  rcases A a (by omega) with ⟨e1, e2, e3⟩ | ⟨w, h, p, bd, X, Y⟩
  · refine im_xAbT (by omega) e1 (br_f im_10 ?_)
    unfold wpY_same; dsimp only
    exact im_yUk ha (br_t rfl (im_yUk hb (br_t rfl (im_yTn (by omega) e3 ⟨rfl, R⟩))))
  have bd1 := bd
  obtain ⟨w0, w8, h0, h8⟩ := bd1
  refine im_xAbF (by omega) (by rw [X.1]; exact nI_ne0 w0 (by omega)) (br_t rfl ?_)
  rcases A b (by omega) with ⟨e1, e2, e3⟩ | ⟨w', h', p', bd', X', Y'⟩
  · refine im_xAbT (by omega) e1 (br_f im_10 ?_)
    unfold wpY_same; dsimp only
    exact im_yUk ha (br_t rfl (im_yUk hb (br_t rfl (im_yTp (by omega) Y.1 (im_yTn (by omega) e3 ⟨rfl, R⟩)))))
  have bd2 := bd'
  obtain ⟨w0', w8', h0', h8'⟩ := bd2
  refine im_xAbF (by omega) (by rw [X'.1]; exact nI_ne0 w0' (by omega)) (br_t rfl ?_)
  have a8 : vp_in (nI a) 8 := vp_in_nI (by omega) (by decide)
  have b8 : vp_in (nI b) 8 := vp_in_nI (by omega) (by decide)
  have a9 : vp_in (nI a) 9 := vp_in_nI (by omega) (by decide)
  have b9 : vp_in (nI b) 9 := vp_in_nI (by omega) (by decide)
  have ca : (nI a).toNatClampNeg = a := nI_clamp (by omega)
  have cb : (nI b).toNatClampNeg = b := nI_clamp (by omega)
  rw [ca, cb, X.1, X.2.1, X'.1, X'.2.1]
  have yw : W' (nI a).toNatClampNeg = nI w := by rw [ca]; exact Y.2.1
  have yw' : W' (nI b).toNatClampNeg = nI w' := by rw [cb]; exact Y'.2.1
  have yh : H' (nI a).toNatClampNeg = nI h := by rw [ca]; exact Y.2.2.1
  have yh' : H' (nI b).toNatClampNeg = nI h' := by rw [cb]; exact Y'.2.2.1
  by_cases ew : w = w'
  · subst ew
    by_cases eh : h = h'
    · subst eh
      refine ⟨a8, b8, br_t rfl ⟨a8, b8, br_t rfl (nm_r (im_e64 a) (nm_r (im_e64 b) (im_xPl (by omega) X.1 X.2.1 ?_)))⟩⟩
      have Z : ∀ r : Int32, ((r = 1 ∧ ∀ y x, y < h → x < w → p y x = p' y x) ∨ (r = 0 ∧ ∃ y x, y < h ∧ x < w ∧ p y x ≠ p' y x)) → ∃ n, wX_same_88 (fun r => wpY_same (fun r' => r' = r ∧ i_Rel (k + 5) (W, H, V, F, D, U) (V', W', H', T, D', F')) (V', W', H', T, D', F') (nI a) (nI b)) (nI (64 * a)) (nI (64 * b)) (nI (h * w)) W H V F D U n 0 := by
        intro r hr
        refine im_xSm (r := r) (by omega) (by omega) (im_64b w8 h8) ?_ ?_
        · rcases hr with ⟨z, g⟩ | ⟨z, y, x, hy, hx, ne⟩
          · refine Or.inl ⟨z, fun j hj => ?_⟩
            have jw : j % w < w := Nat.mod_lt _ w0
            have jh : j / w < h := Nat.div_lt_of_lt_mul (by rw [Nat.mul_comm]; exact hj)
            have ej : j / w * w + j % w = j := Nat.div_add_mod' j w
            have q := (X.2.2 _ _ jh jw).trans ((g _ _ jh jw).trans (X'.2.2 _ _ jh jw).symm)
            rw [ej] at q
            exact q
          · refine Or.inr ⟨z, y * w + x, im_ix hy hx, ?_⟩
            rw [X.2.2 y x hy hx, X'.2.2 y x hy hx]
            exact ne
        · unfold wpY_same; dsimp only
          rw [yw, yw', yh, yh']
          refine im_yUk ha (br_t rfl (im_yUk hb (br_t rfl (im_yTp (by omega) Y.1 (im_yTp (by omega) Y'.1 ⟨a9, b9, br_t rfl ⟨a9, b9, br_t rfl (im_yS71 (r := r) (by omega) (by omega) w8 h8 Y.2.1 Y.2.2.1 ?_ ⟨rfl, R⟩)⟩⟩)))))
          rcases hr with ⟨z, g⟩ | ⟨z, y, x, hy, hx, ne⟩
          · exact Or.inl ⟨z, fun y x hy hx => (Y.2.2.2 y x hy hx).trans ((g y x hy hx).trans (Y'.2.2.2 y x hy hx).symm)⟩
          · refine Or.inr ⟨z, y, x, hy, hx, ?_⟩
            rw [Y.2.2.2 y x hy hx, Y'.2.2.2 y x hy hx]
            exact ne
      by_cases E : ∀ y x, y < h → x < w → p y x = p' y x
      · exact Z 1 (Or.inl ⟨rfl, E⟩)
      · refine Z 0 (Or.inr ⟨rfl, Classical.byContradiction (fun N => E (fun y x hy hx => Classical.byContradiction (fun ne => N ⟨y, x, hy, hx, ne⟩)))⟩)
    · have nh : ¬ nI h = nI h' := fun z => eh ((nI_eq (by omega) (by omega)).mp z)
      refine ⟨a8, b8, br_t rfl ⟨a8, b8, br_f nh ?_⟩⟩
      unfold wpY_same; dsimp only
      rw [yw, yw', yh, yh']
      exact im_yUk ha (br_t rfl (im_yUk hb (br_t rfl (im_yTp (by omega) Y.1 (im_yTp (by omega) Y'.1 ⟨a9, b9, br_t rfl ⟨a9, b9, br_f nh ⟨rfl, R⟩⟩⟩)))))
  · have nw : ¬ nI w = nI w' := fun z => ew ((nI_eq (by omega) (by omega)).mp z)
    refine ⟨a8, b8, br_f nw ?_⟩
    unfold wpY_same; dsimp only
    rw [yw, yw', yh, yh']
    exact im_yUk ha (br_t rfl (im_yUk hb (br_t rfl (im_yTp (by omega) Y.1 (im_yTp (by omega) Y'.1 ⟨a9, b9, br_f nw ⟨rfl, R⟩⟩)))))
