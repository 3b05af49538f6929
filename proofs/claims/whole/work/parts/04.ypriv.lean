/-! Y's own methods without loops, and become -/
theorem im_nle3 {p : Int32} (h : nI 4 ≤ p) : ¬ p ≤ 3 := fun h3 => absurd (Int32.le_trans h h3) (by decide)
theorem im_y1 (s b a : Nat) : 64 * nI s + 8 * nI b + nI a = nI (64 * s + (8 * b + a)) := by
  rw [im_e64', im_e8, nI_add, nI_add, Nat.add_assoc]
section
variable {V W H T D F : Nat → Int32}
theorem im_yUn {post : Int32 → Prop} {p : Int32} (h : p < 0 ∨ nI 4 ≤ p) (hp : post 1) : wpY_out post p :=
  br_c (fun _ => hp) (fun h0 => br_f (im_nle3 (h.resolve_left h0)) hp)
theorem im_yUk {post : Int32 → Prop} {s : Nat} (hs : s < 4) (hp : post 0) : wpY_out post (nI s) :=
  br_f (nI_pos (by omega)) (br_t (nI_le (b := 3) (by omega) (by decide)) hp)
theorem im_yPl {post : Int32 → Prop} {s w h : Nat} (hs : s < 9) (e : W s = nI w) (e' : H s = nI h) (hp : post (nI (h * w))) : wpY_places post (V, W, H, T, D, F) (nI s) := by
  unfold wpY_places; dsimp only
  rw [nI_clamp (n := s) (by omega), e, e', pk_mul, Nat.mul_comm]
  exact ⟨vp_in_nI hs (by decide), vp_in_nI hs (by decide), hp⟩
theorem im_yInF {post : Int32 → Prop} {s w h : Nat} {p1 p2 : Int32} (hs : s < 9) (e : W s = nI w) (e' : H s = nI h) (o : p1 < 0 ∨ nI w ≤ p1 ∨ p2 < 0 ∨ nI h ≤ p2) (hp : post 0) : wpY_inside post (V, W, H, T, D, F) (nI s) p1 p2 := by
  unfold wpY_inside; dsimp only
  rw [nI_clamp (n := s) (by omega), e, e']
  refine br_c (fun _ => hp) (fun h1 => ⟨vp_in_nI hs (by decide), br_c (fun _ => hp) (fun h2 => br_c (fun _ => hp) (fun h3 => ⟨vp_in_nI hs (by decide), br_t ?_ hp⟩))⟩)
  rcases o with o | o | o | o
  · exact absurd o h1
  · exact absurd o h2
  · exact absurd o h3
  · exact o
theorem im_yInT {post : Int32 → Prop} {s w h a b : Nat} (hs : s < 9) (e : W s = nI w) (e' : H s = nI h) (w8 : w ≤ 8) (h8 : h ≤ 8) (ha : a < w) (hb : b < h) (hp : post 1) : wpY_inside post (V, W, H, T, D, F) (nI s) (nI a) (nI b) := by
  unfold wpY_inside; dsimp only
  rw [nI_clamp (n := s) (by omega), e, e']
  exact br_f (nI_pos (by omega)) ⟨vp_in_nI hs (by decide), br_f (nI_ge ha (by omega)) (br_f (nI_pos (by omega)) ⟨vp_in_nI hs (by decide), br_f (nI_ge hb (by omega)) hp⟩)⟩
theorem im_yCkN {post : Int32 → Prop} {f : Nat} (hf : f < 4) (e : T (4 + f) = 0) (hp : post (-2)) : wpY_check post (V, W, H, T, D, F) (nI f) := by
  unfold wpY_check; dsimp only
  rw [im_e4, nI_clamp (n := 4 + f) (by omega)]
  exact ⟨vp_in_nI (by omega) (by decide), br_t e hp⟩
theorem im_yCkB {post : Int32 → Prop} {f : Nat} (hf : f < 4) (e : T (4 + f) = 1) (d : ¬ D (4 + f) = 0) (hp : post (-3)) : wpY_check post (V, W, H, T, D, F) (nI f) := by
  unfold wpY_check; dsimp only
  rw [im_e4, nI_clamp (n := 4 + f) (by omega), e]
  exact ⟨vp_in_nI (by omega) (by decide), br_f im_10 ⟨vp_in_nI (by omega) (by decide), br_f d hp⟩⟩
theorem im_yCkP {post : Int32 → Prop} {f : Nat} (hf : f < 4) (e : T (4 + f) = 1) (d : D (4 + f) = 0) (hp : post 0) : wpY_check post (V, W, H, T, D, F) (nI f) := by
  unfold wpY_check; dsimp only
  rw [im_e4, nI_clamp (n := 4 + f) (by omega), e]
  exact ⟨vp_in_nI (by omega) (by decide), br_f im_10 ⟨vp_in_nI (by omega) (by decide), br_t d hp⟩⟩
/-- become: the 64 values of slot s into slot t, and what else slot s has -/
theorem im_yBc {post : SY → Prop} {s t : Nat} (hs : s < 9) (ht : t < 9)
    (hp : ∀ V2, im_Fill (64 * t) 64 (fun k => V (64 * s + k)) V V2 → post (V2, upd W t (W s), upd H t (H s), upd T t 1, upd D t (vp_nar .boolean (D s)), upd F t (F s))) :
    wpY_become post (V, W, H, T, D, F) (nI t) (nI s) := by
  have cs : (nI s).toNatClampNeg = s := nI_clamp (by omega)
  have is9 : vp_in (nI s) 9 := vp_in_nI hs (by decide)
  refine loop_0 (fun n i V2 => wY_become_2 post (nI t) (nI s) n (nI i) V2 W H T D F) (fun i V2 => im_Fill (64 * t) i (fun k => V (64 * s + k)) V V2) 64 V (im_fill0 _ _ _) (fun n V2 f => ?_) (fun n i V2 hi f k => ?_)
  · refine br_t (Int32.le_refl _) ⟨is9, im_st t rfl ht (by decide) ⟨is9, im_st t rfl ht (by decide) (im_st t rfl ht (by decide) ⟨is9, im_st t rfl ht (by decide) ⟨is9, im_st t rfl ht (by decide) ?_⟩⟩)⟩⟩
    rw [cs, im_vb1]
    exact hp V2 f
  · refine br_f (nI_ge (b := 64) hi (by decide)) ⟨pk_in (64 * s + i) 576 (by omega) (by rw [im_e64', nI_add]), im_st (64 * t + i) (by rw [im_e64', nI_add]) (by omega) (by decide) (nm_r (nI_1 i) (k _ (im_fill1 f ?_ rfl)))⟩
    rw [im_e64', nI_add, nI_clamp (by omega)]
    exact f.2 _ (by omega)
end
