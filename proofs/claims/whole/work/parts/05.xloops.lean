/-! X's loops: create, level, paint, copySlot, writeFile -/
section
variable {W H V F D U : Nat → Int32}
theorem im_xCr {post : Int32 → SX → Prop} {s c : Nat} {q : Int32} (hs : s < 8) (hc : c ≤ 64)
    (hp : ∀ V2, im_Fill (64 * s) c (fun _ => q &&& 255) V V2 → post (nI c) (W, H, V2, F, D, U)) :
    ∃ n, wX_create_55 post q (nI (64 * s)) (nI c) n 0 W H V F D U :=
  loop_0 (fun n i V2 => wX_create_55 post q (nI (64 * s)) (nI c) n (nI i) W H V2 F D U) (fun i V2 => im_Fill (64 * s) i (fun _ => q &&& 255) V V2) c V (im_fill0 _ _ _)
    (fun n V2 f => br_t (Int32.le_refl _) (hp V2 f))
    (fun n i V2 hi f k => br_f (nI_ge hi (by omega)) (im_st (64 * s + i) (nI_add _ _) (by omega) (by decide) (nm_r (nI_1 i) (k _ (im_fill1 f rfl rfl)))))
theorem im_xLv {post : Int32 → SX → Prop} {s c : Nat} {a b : Int32} (hs : s < 8) (hc : c ≤ 64)
    (hp : ∀ V2, im_Fill (64 * s) c (fun k => (V (64 * s + k) * a + b) &&& 255) V V2 → post (nI c) (W, H, V2, F, D, U)) :
    ∃ n, wX_level_31 post a b (nI (64 * s)) (nI c) n 0 W H V F D U := by
  refine loop_0 (fun n i V2 => wX_level_31 post a b (nI (64 * s)) (nI c) n (nI i) W H V2 F D U) (fun i V2 => im_Fill (64 * s) i (fun k => (V (64 * s + k) * a + b) &&& 255) V V2) c V (im_fill0 _ _ _) (fun n V2 f => br_t (Int32.le_refl _) (hp V2 f)) (fun n i V2 hi f k => ?_)
  refine br_f (nI_ge hi (by omega)) ⟨pk_in (64 * s + i) 512 (by omega) (nI_add _ _), im_st (64 * s + i) (nI_add _ _) (by omega) (by decide) (nm_r (nI_1 i) (k _ (im_fill1 f ?_ rfl)))⟩
  rw [nI_add, nI_clamp (by omega), f.2 _ (Or.inr (Nat.le_refl _))]
theorem im_xPn {post : Int32 → SX → Prop} {st c : Nat} {q d : Int32} (hs : st + c ≤ 512)
    (hp : ∀ V2, im_Fill st c (fun j => (q + nI j * d) &&& 255) V V2 → post (nI c) (W, H, V2, F, D, U)) :
    ∃ n, wX_paint_65 post (nI c) q (nI st) d n 0 W H V F D U :=
  loop_0 (fun n i V2 => wX_paint_65 post (nI c) q (nI st) d n (nI i) W H V2 F D U) (fun i V2 => im_Fill st i (fun j => (q + nI j * d) &&& 255) V V2) c V (im_fill0 _ _ _)
    (fun n V2 f => br_t (Int32.le_refl _) (hp V2 f))
    (fun n i V2 hi f k => br_f (nI_ge hi (by omega)) (im_st (st + i) (nI_add _ _) (by omega) (by decide) (nm_r (nI_1 i) (k _ (im_fill1 f rfl rfl)))))
theorem im_xCs {post : SX → Prop} {s t w h : Nat} (hs : s < 8) (ht : t < 8) (bd : im_Bd w h) (e : W s = nI w) (e' : H s = nI h)
    (hp : ∀ V2, im_Fill (64 * t) (h * w) (fun k => V (64 * s + k)) V V2 → post (upd W t (W s), upd H t (H s), V2, F, D, U)) :
    wpX_copySlot post (W, H, V, F, D, U) (nI s) (nI t) := by
  have c64 := im_64b bd.2.1 bd.2.2.2
  unfold wpX_copySlot; dsimp only
  rw [nI_clamp (n := s) (by omega)]
  refine ⟨vp_in_nI hs (by decide), im_st t rfl ht (by decide) ⟨vp_in_nI hs (by decide), im_st t rfl ht (by decide) (nm_r (im_e64 s) (nm_r (im_e64 t) (im_xPl hs (im_us.trans e) (im_us.trans e') ?_)))⟩⟩
  generalize h * w = c at c64 hp
  refine loop_0 (fun n i V2 => wX_copySlot_45 post (nI (64 * s)) (nI (64 * t)) (nI c) n (nI i) (upd W t (W s)) (upd H t (H s)) V2 F D U) (fun i V2 => im_Fill (64 * t) i (fun k => V (64 * s + k)) V V2) c V (im_fill0 _ _ _) (fun n V2 f => br_t (Int32.le_refl _) (hp V2 f)) (fun n i V2 hi f k => ?_)
  refine br_f (nI_ge hi (by omega)) ⟨pk_in (64 * s + i) 512 (by omega) (nI_add _ _), im_st (64 * t + i) (nI_add _ _) (by omega) (by decide) (nm_r (nI_1 i) (k _ (im_fill1 f ?_ rfl)))⟩
  rw [nI_add, nI_clamp (by omega)]
  exact f.2 _ (by omega)
theorem im_xWf {post : Int32 → SX → Prop} {s g w h : Nat} {q : Int32} (hs : s < 8) (hg : g < 4) (bd : im_Bd w h) (e : W s = nI w) (e' : H s = nI h)
    (hp : ∀ V2, im_Fill (64 * (4 + g)) (h * w) (fun k => V (64 * s + k)) V V2 → post (nI (h * w)) (upd W (4 + g) (W s), upd H (4 + g) (H s), V2, upd F g q, upd D g 0, U)) :
    wpX_writeFile post (W, H, V, F, D, U) (nI s) (nI g) q := by
  unfold wpX_writeFile; dsimp only
  rw [im_e4]
  refine im_xCs hs (by omega) bd e e' (fun V2 f => im_st g rfl hg (by decide) (im_st g rfl hg (by decide) (im_xPl hs (im_us.trans e) (im_us.trans e') ?_)))
  rw [im_vb0]
  exact hp V2 f
end
