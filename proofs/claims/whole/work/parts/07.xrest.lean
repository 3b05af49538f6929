/-! X's mirror, keepPart, same -/
section
variable {W H V F D U : Nat → Int32}
theorem im_mrI {st w x : Nat} (hx : x < w) : nI st + nI w - 1 - nI x = nI (st + (w - 1 - x)) := by
  rw [im_1, nI_add, pk_sub (by omega), pk_sub (by omega)]
  exact congrArg nI (by omega)
theorem im_xMr {post : SX → Prop} {st w : Nat} (h0 : 0 < w) (hst : st + w ≤ 512)
    (hp : ∀ V2, im_Fill st w (fun j => V (st + (w - 1 - j))) V V2 → post (W, H, V2, F, D, U)) :
    wpX_mirrorRow post (W, H, V, F, D, U) (nI st) (nI w) := by
  unfold wpX_mirrorRow; dsimp only
  refine ⟨by decide, nm_r (pk_div (d := 2) (by omega) (by decide) (by decide)) ?_⟩
  refine loop_0 (fun n x V2 => wX_mirrorRow_7 post (nI st) (nI w) (nI (w / 2)) n (nI x) W H V2 F D U) (fun x V2 => im_MR st w x V V2) (w / 2) V (im_mr0 _ _ _) (fun n V2 f => br_t (Int32.le_refl _) (hp V2 (im_mrE f))) (fun n x V2 hx f k => ?_)
  refine br_f (nI_ge hx (by omega)) (nm_r (nI_add st x) (nm_r (im_mrI (by omega)) ⟨vp_in_nI (by omega) (by decide), nm_r (congrArg V2 (nI_clamp (by omega))) ⟨vp_in_nI (by omega) (by decide), im_st (st + x) rfl (by omega) (by decide) (im_st (st + (w - 1 - x)) rfl (by omega) (by decide) (nm_r (nI_1 x) (k _ ?_)))⟩⟩))
  rw [nI_clamp (by omega)]
  exact im_mr1 f hx rfl rfl
theorem im_xMi {post : Int32 → SX → Prop} {s w h : Nat} {p : Nat → Nat → Int32} (hs : s < 8) (bd : im_Bd w h) (P : im_XP s w h p W H V)
    (hp : ∀ V2, im_XP s w h (fun y x => p y (w - 1 - x)) W H V2 → im_XF s W H V W H V2 → post (nI w) (W, H, V2, F, D, U)) :
    ∃ n, wX_mirror_30 post (nI s) (nI w) (nI h) n 0 W H V F D U := by
  obtain ⟨w0, w8, h0, h8⟩ := bd
  have c64 := im_64b w8 h8
  refine loop_0 (fun n y V2 => wX_mirror_30 post (nI s) (nI w) (nI h) n (nI y) W H V2 F D U) (fun y V2 => im_Fill (64 * s) (y * w) (fun k => V (64 * s + (k / w * w + (w - 1 - k % w)))) V V2) h V (by rw [Nat.zero_mul]; exact im_fill0 _ _ _) (fun n V2 f => ?_) (fun n y V2 hy f k => ?_)
  · refine br_t (Int32.le_refl _) (hp V2 ⟨P.1, P.2.1, im_xpF f (Nat.le_refl _) (fun y x hy hx => ?_)⟩ ⟨fun _ _ => ⟨rfl, rfl⟩, fun j hj => f.2 j (by omega)⟩)
    show V (64 * s + ((y * w + x) / w * w + (w - 1 - (y * w + x) % w))) = p y (w - 1 - x)
    rw [im_md hx, im_dv hx]
    exact P.2.2 _ _ hy (by omega)
  · have i1 : y * w + (w - 1) < h * w := im_ix hy (by omega)
    have ei : nI s * 64 + nI y * nI w = nI (64 * s + y * w) := by rw [im_e64, pk_mul, nI_add]
    refine br_f (nI_ge hy (by omega)) ?_
    rw [ei]
    refine im_xMr w0 (by omega) (fun V3 g => nm_r (nI_1 y) (k V3 ?_))
    rw [Nat.add_mul, Nat.one_mul]
    refine im_fillC f g (fun j hj => ?_)
    show V2 (64 * s + y * w + (w - 1 - j)) = V (64 * s + ((y * w + j) / w * w + (w - 1 - (y * w + j) % w)))
    rw [im_md hj, im_dv hj, f.2 _ (by omega), Nat.add_assoc]
theorem im_xK51 {post : SX → Prop} {J : Int32 → (Nat → Int32) → (Nat → Int32) → (Nat → Int32) → (Nat → Int32) → (Nat → Int32) → (Nat → Int32) → Prop} {s w h a b nw nh y : Nat} {V1 : Nat → Int32} (hs : s < 8) (bd : im_Bd w h) (ha : nw + a ≤ w) (hy : y + b < h)
    (f : im_Fill (64 * s) (y * nw) (fun k => V (64 * s + ((k / nw + b) * w + (k % nw + a)))) V V1)
    (hJ : ∀ V2, im_Fill (64 * s) ((y + 1) * nw) (fun k => V (64 * s + ((k / nw + b) * w + (k % nw + a)))) V V2 → J (nI (y + 1)) W H V2 F D U) :
    ∃ n, wX_keepPart_51 post J (nI s) (nI a) (nI b) (nI nw) (nI nh) (nI (64 * s)) (nI w) (nI y) (nI (64 * s + ((y + b) * w + a))) (nI (64 * s + y * nw)) n 0 W H V1 F D U := by
  obtain ⟨w0, w8, h0, h8⟩ := bd
  have c64 := im_64b w8 h8
  refine loop_0 (fun n x V2 => wX_keepPart_51 post J (nI s) (nI a) (nI b) (nI nw) (nI nh) (nI (64 * s)) (nI w) (nI y) (nI (64 * s + ((y + b) * w + a))) (nI (64 * s + y * nw)) n (nI x) W H V2 F D U) (fun x V2 => im_Fill (64 * s) (y * nw + x) (fun k => V (64 * s + ((k / nw + b) * w + (k % nw + a)))) V V2) nw V1 f (fun n V2 f2 => ?_) (fun n x V2 hx f2 k => ?_)
  · exact br_t (Int32.le_refl _) (nm_r (nI_1 y) (hJ V2 (by rw [Nat.add_mul, Nat.one_mul]; exact f2)))
  · have i1 : (y + b) * w + (x + a) < h * w := im_ix hy (by omega)
    have i2 : y * nw ≤ (y + b) * w := Nat.mul_le_mul (by omega) (by omega)
    refine br_f (nI_ge hx (by omega)) ⟨pk_in (64 * s + ((y + b) * w + a) + x) 512 (by omega) (nI_add _ _), im_st (64 * s + y * nw + x) (nI_add _ _) (by omega) (by decide) (nm_r (nI_1 x) (k _ (im_fill1 f2 ?_ (Nat.add_assoc _ _ _))))⟩
    show _ = V (64 * s + (((y * nw + x) / nw + b) * w + ((y * nw + x) % nw + a)))
    rw [nI_add, nI_clamp (by omega), im_md hx, im_dv hx, f2.2 _ (by omega)]
    exact congrArg V (by omega)
theorem im_xKp {post : SX → Prop} {s w h a b nw nh : Nat} {p : Nat → Nat → Int32} (hs : s < 8) (bd : im_Bd w h) (ha : nw + a ≤ w) (hb : nh + b ≤ h) (P : im_XP s w h p W H V)
    (hp : ∀ V2, im_XP s nw nh (fun y x => p (y + b) (x + a)) (upd W s (nI nw)) (upd H s (nI nh)) V2 → im_XF s W H V (upd W s (nI nw)) (upd H s (nI nh)) V2 → post (upd W s (nI nw), upd H s (nI nh), V2, F, D, U)) :
    wpX_keepPart post (W, H, V, F, D, U) (nI s) (nI a) (nI b) (nI nw) (nI nh) := by
  have c64 := im_64b bd.2.1 bd.2.2.2
  have d64 : nh * nw ≤ h * w := Nat.mul_le_mul (by omega) (by omega)
  have h8 := bd.2.2.2
  unfold wpX_keepPart; dsimp only
  rw [nI_clamp (n := s) (by omega), P.1]
  refine nm_r (im_e64 s) ⟨vp_in_nI hs (by decide), nm_e ?_⟩
  refine loop_0 (fun n y V2 => wX_keepPart_17 post (nI s) (nI a) (nI b) (nI nw) (nI nh) (nI (64 * s)) (nI w) n (nI y) W H V2 F D U) (fun y V2 => im_Fill (64 * s) (y * nw) (fun k => V (64 * s + ((k / nw + b) * w + (k % nw + a)))) V V2) nh V (by rw [Nat.zero_mul]; exact im_fill0 _ _ _) (fun n V2 f => ?_) (fun n y V2 hy f k => ?_)
  · refine br_t (Int32.le_refl _) (im_st s rfl hs (by decide) (im_st s rfl hs (by decide) (hp V2 ⟨pk_us, pk_us, im_xpF f (Nat.le_refl _) (fun y x hy hx => ?_)⟩ ⟨fun t ht => ⟨pk_un ht, pk_un ht⟩, fun j hj => f.2 j (by omega)⟩)))
    show V (64 * s + (((y * nw + x) / nw + b) * w + ((y * nw + x) % nw + a))) = p (y + b) (x + a)
    rw [im_md hx, im_dv hx]
    exact P.2.2 _ _ (by omega) (by omega)
  · refine br_f (nI_ge hy (by omega)) (nm_r (e' := nI (64 * s + ((y + b) * w + a))) ?_ (nm_r (e' := nI (64 * s + y * nw)) ?_ (im_xK51 hs bd ha (by omega) f (fun V3 f3 => k V3 f3))))
    · rw [nI_add, pk_mul, nI_add, nI_add, Nat.add_comm b y, Nat.add_assoc]
    · rw [pk_mul, nI_add]
theorem im_xSm {post : Int32 → Prop} {a b c : Nat} {r : Int32} (ha : a < 8) (hb : b < 8) (hc : c ≤ 64)
    (hr : (r = 1 ∧ ∀ k, k < c → V (64 * a + k) = V (64 * b + k)) ∨ (r = 0 ∧ ∃ k, k < c ∧ V (64 * a + k) ≠ V (64 * b + k))) (hp : post r) :
    ∃ n, wX_same_88 post (nI (64 * a)) (nI (64 * b)) (nI c) W H V F D U n 0 := by
  refine loop_0 (fun n i (_ : Unit) => wX_same_88 post (nI (64 * a)) (nI (64 * b)) (nI c) W H V F D U n (nI i)) (fun i _ => ∀ k, k < i → V (64 * a + k) = V (64 * b + k)) c () (fun k h => absurd h (Nat.not_lt_zero k)) (fun n _ f => ?_) (fun n i _ hi f k => ?_)
  · refine br_t (Int32.le_refl _) ?_
    rcases hr with ⟨e, _⟩ | ⟨_, j, hj, ne⟩
    · rw [← e]; exact hp
    · exact absurd (f j hj) ne
  · refine br_f (nI_ge hi (by omega)) ⟨pk_in (64 * a + i) 512 (by omega) (nI_add _ _), pk_in (64 * b + i) 512 (by omega) (nI_add _ _), ?_⟩
    rw [nI_add (64 * a) i, nI_add (64 * b) i, nI_clamp (by omega), nI_clamp (by omega)]
    refine br_c (fun e => nm_r (nI_1 i) (k () (lt_s f e))) (fun ne => ?_)
    rcases hr with ⟨_, g⟩ | ⟨e, _⟩
    · exact absurd (g i hi) ne
    · rw [← e]; exact hp
end
