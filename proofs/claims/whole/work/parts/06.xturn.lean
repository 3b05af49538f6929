/-! X's turnOnce and turn, mirrorRow and mirror's loop, keepPart, same's loop -/
theorem im_xt1 {h x w y : Nat} (hx : x < h) : (nI h - 1 - nI x) * nI w + nI y = nI ((h - 1 - x) * w + y) := by
  rw [im_1, pk_sub (by omega), pk_sub (by omega), pk_mul, nI_add]
theorem im_xt2 (s y h x : Nat) : nI (64 * s) + nI y * nI h + nI x = nI (64 * s + (y * h + x)) := by
  rw [pk_mul, nI_add, nI_add, Nat.add_assoc]
theorem im_xfT {s : Nat} {W H V W1 H1 V1 W2 H2 V2 : Nat → Int32} (a : im_XF s W H V W1 H1 V1) (b : im_XF s W1 H1 V1 W2 H2 V2) : im_XF s W H V W2 H2 V2 :=
  ⟨fun t ht => ⟨(b.1 t ht).1.trans (a.1 t ht).1, (b.1 t ht).2.trans (a.1 t ht).2⟩, fun j hj => (b.2 j hj).trans (a.2 j hj)⟩
theorem im_xf0 {s : Nat} {W H V : Nat → Int32} : im_XF s W H V W H V := ⟨fun _ _ => ⟨rfl, rfl⟩, fun _ _ => rfl⟩
section
variable {W H V F D U : Nat → Int32}
theorem im_xT71 {post : SX → Prop} {J : Int32 → (Nat → Int32) → (Nat → Int32) → (Nat → Int32) → (Nat → Int32) → (Nat → Int32) → (Nat → Int32) → Prop} {s w h y : Nat} {V1 : Nat → Int32} (hs : s < 8) (bd : im_Bd w h) (hy : y < w)
    (f : im_Fill (64 * s) (y * h) (fun k => U ((h - 1 - k % h) * w + k / h)) V V1)
    (hJ : ∀ V2, im_Fill (64 * s) ((y + 1) * h) (fun k => U ((h - 1 - k % h) * w + k / h)) V V2 → J (nI (y + 1)) W H V2 F D U) :
    ∃ n, wX_turnOnce_71 post J (nI s) (nI (64 * s)) (nI w) (nI h) (nI y) n 0 W H V1 F D U := by
  obtain ⟨w0, w8, h0, h8⟩ := bd
  have c64 := im_64b w8 h8
  have d64 := im_64b h8 w8
  refine loop_0 (fun n x V2 => wX_turnOnce_71 post J (nI s) (nI (64 * s)) (nI w) (nI h) (nI y) n (nI x) W H V2 F D U) (fun x V2 => im_Fill (64 * s) (y * h + x) (fun k => U ((h - 1 - k % h) * w + k / h)) V V2) h V1 f (fun n V2 f2 => ?_) (fun n x V2 hx f2 k => ?_)
  · exact br_t (Int32.le_refl _) (nm_r (nI_1 y) (hJ V2 (by rw [Nat.add_mul, Nat.one_mul]; exact f2)))
  · have i1 : (h - 1 - x) * w + y < h * w := im_ix (by omega) hy
    have i2 : y * h + x < w * h := im_ix hy hx
    refine br_f (nI_ge hx (by omega)) ⟨pk_in ((h - 1 - x) * w + y) 64 (by omega) (im_xt1 hx), im_st (64 * s + (y * h + x)) (im_xt2 s y h x) (by omega) (by decide) (nm_r (nI_1 x) (k _ (im_fill1 f2 ?_ rfl)))⟩
    show _ = U ((h - 1 - (y * h + x) % h) * w + (y * h + x) / h)
    rw [im_xt1 hx, nI_clamp (by omega), im_md hx, im_dv hx]
theorem im_xT61 {post : SX → Prop} {s w h : Nat} (hs : s < 8) (bd : im_Bd w h)
    (hp : ∀ V2, im_Fill (64 * s) (w * h) (fun k => U ((h - 1 - k % h) * w + k / h)) V V2 → post (upd W s (nI h), upd H s (nI w), V2, F, D, U)) :
    ∃ n, wX_turnOnce_61 post (nI s) (nI (64 * s)) (nI w) (nI h) n 0 W H V F D U := by
  refine loop_0 (fun n y V2 => wX_turnOnce_61 post (nI s) (nI (64 * s)) (nI w) (nI h) n (nI y) W H V2 F D U) (fun y V2 => im_Fill (64 * s) (y * h) (fun k => U ((h - 1 - k % h) * w + k / h)) V V2) w V (by rw [Nat.zero_mul]; exact im_fill0 _ _ _) (fun n V2 f => ?_) (fun n y V2 hy f k => ?_)
  · exact br_t (Int32.le_refl _) (im_st s rfl hs (by decide) (im_st s rfl hs (by decide) (hp V2 f)))
  · have w8 := bd.2.1
    exact br_f (nI_ge hy (by omega)) (im_xT71 hs bd hy f (fun V3 f3 => k V3 f3))
theorem im_xT14 {post : SX → Prop} {s w h : Nat} (hs : s < 8) (bd : im_Bd w h) (e : W s = nI w) (e' : H s = nI h)
    (hp : ∀ U2 V2, (∀ k, k < h * w → U2 k = V (64 * s + k)) → im_Fill (64 * s) (w * h) (fun k => U2 ((h - 1 - k % h) * w + k / h)) V V2 → post (upd W s (nI h), upd H s (nI w), V2, F, D, U2)) :
    ∃ n, wX_turnOnce_14 post (nI s) (nI (64 * s)) (nI (h * w)) n 0 W H V F D U := by
  have c64 := im_64b bd.2.1 bd.2.2.2
  refine loop_0 (fun n i U2 => wX_turnOnce_14 post (nI s) (nI (64 * s)) (nI (h * w)) n (nI i) W H V F D U2) (fun i U2 => im_Fill 0 i (fun k => V (64 * s + k)) U U2) (h * w) U (im_fill0 _ _ _) (fun n U2 f => ?_) (fun n i U2 hi f k => ?_)
  · refine br_t (Int32.le_refl _) ⟨vp_in_nI hs (by decide), nm_r (by rw [nI_clamp (by omega), e]) ⟨vp_in_nI hs (by decide), nm_r (by rw [nI_clamp (by omega), e']) (im_xT61 hs bd (fun V2 g => hp U2 V2 (fun k hk => ?_) g))⟩⟩
    have q := f.1 k hk
    rw [Nat.zero_add] at q
    exact q
  · refine br_f (nI_ge hi (by omega)) ⟨pk_in (64 * s + i) 512 (by omega) (nI_add _ _), im_st i rfl (by omega) (by decide) (nm_r (nI_1 i) (k _ (im_fill1 f ?_ (Nat.zero_add i).symm)))⟩
    rw [nI_add, nI_clamp (by omega)]
theorem im_xTo {post : SX → Prop} {s w h : Nat} {p : Nat → Nat → Int32} (hs : s < 8) (bd : im_Bd w h) (P : im_XP s w h p W H V)
    (hp : ∀ W2 H2 V2 U2, im_XP s h w (fun y x => p (h - 1 - x) y) W2 H2 V2 → im_XF s W H V W2 H2 V2 → post (W2, H2, V2, F, D, U2)) :
    wpX_turnOnce post (W, H, V, F, D, U) (nI s) := by
  have c64 := im_64b bd.2.2.2 bd.2.1
  unfold wpX_turnOnce; dsimp only
  refine nm_r (im_e64 s) (im_xPl hs P.1 P.2.1 (im_xT14 hs bd P.1 P.2.1 (fun U2 V2 g f => hp _ _ V2 U2 ⟨pk_us, pk_us, im_xpF f (Nat.le_refl _) (fun y x hy hx => ?_)⟩ ⟨fun t ht => ⟨pk_un ht, pk_un ht⟩, fun j hj => f.2 j (by omega)⟩)))
  show U2 ((h - 1 - (y * h + x) % h) * w + (y * h + x) / h) = p (h - 1 - x) y
  rw [im_md hx, im_dv hx, g _ (im_ix (by omega) hy)]
  exact P.2.2 _ _ (by omega) hy
theorem im_xTu {post : Int32 → SX → Prop} {s w h m : Nat} {p : Nat → Nat → Int32} (hs : s < 8) (bd : im_Bd w h) (hm : m < 4) (P : im_XP s w h p W H V)
    (hp : ∀ W2 H2 V2 U2, im_XP s (im_rots (w, h, p) m).1 (im_rots (w, h, p) m).2.1 (im_rots (w, h, p) m).2.2 W2 H2 V2 → im_XF s W H V W2 H2 V2 → post (nI (im_rots (w, h, p) m).1) (W2, H2, V2, F, D, U2)) :
    ∃ n, wX_turn_20 post (nI s) (nI m) n 0 W H V F D U := by
  refine loop_0 (fun n i (z : (Nat → Int32) × (Nat → Int32) × (Nat → Int32) × (Nat → Int32)) => wX_turn_20 post (nI s) (nI m) n (nI i) z.1 z.2.1 z.2.2.1 F D z.2.2.2) (fun i z => im_XP s (im_rots (w, h, p) i).1 (im_rots (w, h, p) i).2.1 (im_rots (w, h, p) i).2.2 z.1 z.2.1 z.2.2.1 ∧ im_XF s W H V z.1 z.2.1 z.2.2.1) m (W, H, V, U) ⟨P, im_xf0⟩ (fun n z f => ?_) (fun n i z hi f k => ?_)
  · refine br_t (Int32.le_refl _) ⟨vp_in_nI hs (by decide), ?_⟩
    rw [nI_clamp (by omega), f.1.1]
    exact hp _ _ _ _ f.1 f.2
  · refine br_f (nI_ge hi (by omega)) (im_xTo hs (im_rotB (t := (w, h, p)) bd i) f.1 (fun W2 H2 V2 U2 a b => nm_r (nI_1 i) (k (W2, H2, V2, U2) ⟨a, im_xfT f.2 b⟩)))
end
