/-! Y's mirror, crop, same -/
section
variable {V W H T D F : Nat → Int32}
theorem im_ym1 {w x y : Nat} (hx : x < w) : 512 + 8 * nI y + nI w - 1 - nI x = nI (512 + (8 * y + (w - 1 - x))) := by
  rw [im_e8, im_512, nI_add, nI_add, im_1, pk_sub (by omega), pk_sub (by omega)]
  exact congrArg nI (by omega)
theorem im_yM42 {post : Int32 → SY → Prop} {J : Int32 → (Nat → Int32) → (Nat → Int32) → (Nat → Int32) → (Nat → Int32) → (Nat → Int32) → (Nat → Int32) → Prop} {s w y : Nat} {V1 : Nat → Int32} (hs : s < 8) (w8 : w ≤ 8) (hy : y < 8)
    (e : W s = nI w) (f : im_Grid (64 * s) w y 0 (fun y x => V (512 + (8 * y + (w - 1 - x)))) V V1)
    (hJ : ∀ V2, im_Grid (64 * s) w (y + 1) 0 (fun y x => V (512 + (8 * y + (w - 1 - x)))) V V2 → J (nI (y + 1)) V2 W H T D F) :
    ∃ n, wY_mirror_42 post J (nI s) (nI y) n 0 V1 W H T D F := by
  have is9 : vp_in (nI s) 9 := vp_in_nI (by omega) (by decide)
  have ew : W (nI s).toNatClampNeg = nI w := by rw [nI_clamp (by omega)]; exact e
  refine loop_0 (fun n x V2 => wY_mirror_42 post J (nI s) (nI y) n (nI x) V2 W H T D F) (fun x V2 => im_Grid (64 * s) w y x (fun y x => V (512 + (8 * y + (w - 1 - x)))) V V2) w V1 f (fun n V2 f2 => ?_) (fun n x V2 hx f2 k => ?_)
  · refine ⟨is9, br_t ?_ (nm_r (nI_1 y) (hJ V2 (im_gridR f2)))⟩
    rw [ew]
    exact Int32.le_refl _
  · refine ⟨is9, br_f ?_ ⟨is9, pk_in (512 + (8 * y + (w - 1 - x))) 576 (by omega) (by rw [ew, im_ym1 hx]), im_st (64 * s + (8 * y + x)) (im_y1 s y x) (by omega) (by decide) (nm_r (nI_1 x) (k _ (im_grid1 f2 w8 hy hx ?_ rfl)))⟩⟩
    · rw [ew]
      exact nI_ge hx (by omega)
    · rw [ew, im_ym1 hx, nI_clamp (by omega)]
      exact f2.2 _ (by omega)
theorem im_yM30 {post : Int32 → SY → Prop} {s w h : Nat} (hs : s < 8) (bd : im_Bd w h) (e : W s = nI w) (e' : H s = nI h)
    (hp : ∀ V2, im_Grid (64 * s) w h 0 (fun y x => V (512 + (8 * y + (w - 1 - x)))) V V2 → post (nI w) (V2, W, H, T, D, F)) :
    ∃ n, wY_mirror_30 post (nI s) n 0 V W H T D F := by
  have h8 := bd.2.2.2
  have is9 : vp_in (nI s) 9 := vp_in_nI (by omega) (by decide)
  have eh : H (nI s).toNatClampNeg = nI h := by rw [nI_clamp (by omega)]; exact e'
  refine loop_0 (fun n y V2 => wY_mirror_30 post (nI s) n (nI y) V2 W H T D F) (fun y V2 => im_Grid (64 * s) w y 0 (fun y x => V (512 + (8 * y + (w - 1 - x)))) V V2) h V (im_grid0 _ _ _ _) (fun n V2 f => ?_) (fun n y V2 hy f k => ?_)
  · refine ⟨is9, br_t ?_ ⟨is9, ?_⟩⟩
    · rw [eh]
      exact Int32.le_refl _
    · rw [nI_clamp (by omega), e]
      exact hp V2 f
  · refine ⟨is9, br_f ?_ (im_yM42 hs bd.2.1 (by omega) e f (fun V3 f3 => k V3 f3))⟩
    rw [eh]
    exact nI_ge hy (by omega)
/-- become(8, s), then a grid out of slot 8 into slot s, of nw columns and nh rows: the picture of slot s -/
theorem im_yG {s w h nw nh : Nat} {p q : Nat → Nat → Int32} {V1 V2 W2 H2 : Nat → Int32} (hs : s < 8) (P : im_YP s w h p V W H T) (f1 : im_Fill (64 * 8) 64 (fun k => V (64 * s + k)) V V1)
    (f2 : im_Grid (64 * s) nw nh 0 q V1 V2) (e : W2 s = nI nw) (e' : H2 s = nI nh) (o : ∀ t, t ≠ s → t < 8 → W2 t = W t ∧ H2 t = H t) :
    im_YP s nw nh q V2 W2 H2 (upd T 8 1) ∧ im_YF s V W H T V2 W2 H2 (upd T 8 1) := by
  have n8 : s ≠ 8 := by omega
  refine ⟨⟨?_, e, e', im_ypG f2⟩, fun t ht t8 => ⟨(o t ht t8).1, (o t ht t8).2, pk_un (by omega)⟩, fun j hj j5 => (f2.2 j hj).trans (f1.2 j (by omega))⟩
  rw [pk_un n8]
  exact P.1
theorem im_yMi {post : Int32 → SY → Prop} {s w h : Nat} {p : Nat → Nat → Int32} (hs : s < 8) (bd : im_Bd w h) (P : im_YP s w h p V W H T)
    (hp : ∀ V2 W2 H2 T2 D2 F2, im_YP s w h (fun y x => p y (w - 1 - x)) V2 W2 H2 T2 → im_YF s V W H T V2 W2 H2 T2 → (∀ t, t < 8 → D2 t = D t ∧ F2 t = F t) → post (nI w) (V2, W2, H2, T2, D2, F2)) :
    wpY_become (fun u => match u with | (a_value_6, a_width_7, a_height_8, a_there_9, a_damaged_10, a_form_11) => (∃ n30 : Nat, wY_mirror_30 post (nI s) n30 0 a_value_6 a_width_7 a_height_8 a_there_9 a_damaged_10 a_form_11)) (V, W, H, T, D, F) 8 (nI s) := by
  have h8 := bd.2.2.2
  have w8 := bd.2.1
  have n8 : s ≠ 8 := by omega
  refine im_yBc (t := 8) (by omega) (by decide) (fun V1 f1 => ?_)
  dsimp only
  refine im_yM30 hs bd ((pk_un n8).trans P.2.1) ((pk_un n8).trans P.2.2.1) (fun V2 f2 => ?_)
  have G := im_yG (W2 := upd W 8 (W s)) (H2 := upd H 8 (H s)) hs P f1 f2 ((pk_un n8).trans P.2.1) ((pk_un n8).trans P.2.2.1) (fun t ht t8 => ⟨pk_un (by omega), pk_un (by omega)⟩)
  refine hp _ _ _ _ _ _ ⟨G.1.1, G.1.2.1, G.1.2.2.1, fun y x hy hx => ?_⟩ G.2 (fun t t8 => ⟨pk_un (by omega), pk_un (by omega)⟩)
  rw [G.1.2.2.2 y x hy hx]
  show V1 (512 + (8 * y + (w - 1 - x))) = p y (w - 1 - x)
  exact (f1.1 (8 * y + (w - 1 - x)) (by omega)).trans (P.2.2.2 _ _ hy (by omega))
theorem im_yc1 (y b x a : Nat) : 512 + 8 * (nI y + nI b) + nI x + nI a = nI (512 + (8 * (y + b) + (x + a))) := by
  rw [nI_add, im_e8, im_512, nI_add, nI_add, nI_add]
  exact congrArg nI (by omega)
theorem im_yC77 {post : Int32 → SY → Prop} {J : Int32 → (Nat → Int32) → (Nat → Int32) → (Nat → Int32) → (Nat → Int32) → (Nat → Int32) → (Nat → Int32) → Prop} {s a b nw y : Nat} {V1 : Nat → Int32} (hs : s < 8) (ha : nw + a ≤ 8) (hy : y + b < 8)
    (e : W s = nI nw) (f : im_Grid (64 * s) nw y 0 (fun y x => V (512 + (8 * (y + b) + (x + a)))) V V1)
    (hJ : ∀ V2, im_Grid (64 * s) nw (y + 1) 0 (fun y x => V (512 + (8 * (y + b) + (x + a)))) V V2 → J (nI (y + 1)) V2 W H T D F) :
    ∃ n, wY_crop_77 post J (nI s) (nI a) (nI b) (nI y) n 0 V1 W H T D F := by
  have is9 : vp_in (nI s) 9 := vp_in_nI (by omega) (by decide)
  have ew : W (nI s).toNatClampNeg = nI nw := by rw [nI_clamp (by omega)]; exact e
  refine loop_0 (fun n x V2 => wY_crop_77 post J (nI s) (nI a) (nI b) (nI y) n (nI x) V2 W H T D F) (fun x V2 => im_Grid (64 * s) nw y x (fun y x => V (512 + (8 * (y + b) + (x + a)))) V V2) nw V1 f (fun n V2 f2 => ?_) (fun n x V2 hx f2 k => ?_)
  · refine ⟨is9, br_t ?_ (nm_r (nI_1 y) (hJ V2 (im_gridR f2)))⟩
    rw [ew]
    exact Int32.le_refl _
  · refine ⟨is9, br_f ?_ ⟨pk_in (512 + (8 * (y + b) + (x + a))) 576 (by omega) (im_yc1 y b x a), im_st (64 * s + (8 * y + x)) (im_y1 s y x) (by omega) (by decide) (nm_r (nI_1 x) (k _ (im_grid1 f2 (by omega) (by omega) hx ?_ rfl)))⟩⟩
    · rw [ew]
      exact nI_ge hx (by omega)
    · rw [im_yc1, nI_clamp (by omega)]
      exact f2.2 _ (by omega)
theorem im_yC63 {post : Int32 → SY → Prop} {s a b nw nh : Nat} (hs : s < 8) (ha : nw + a ≤ 8) (hb : nh + b ≤ 8) (e : W s = nI nw) (e' : H s = nI nh)
    (hp : ∀ V2, im_Grid (64 * s) nw nh 0 (fun y x => V (512 + (8 * (y + b) + (x + a)))) V V2 → post (nI (nh * nw)) (V2, W, H, T, D, F)) :
    ∃ n, wY_crop_63 post (nI s) (nI a) (nI b) n 0 V W H T D F := by
  have is9 : vp_in (nI s) 9 := vp_in_nI (by omega) (by decide)
  have eh : H (nI s).toNatClampNeg = nI nh := by rw [nI_clamp (by omega)]; exact e'
  refine loop_0 (fun n y V2 => wY_crop_63 post (nI s) (nI a) (nI b) n (nI y) V2 W H T D F) (fun y V2 => im_Grid (64 * s) nw y 0 (fun y x => V (512 + (8 * (y + b) + (x + a)))) V V2) nh V (im_grid0 _ _ _ _) (fun n V2 f => ?_) (fun n y V2 hy f k => ?_)
  · refine ⟨is9, br_t ?_ (im_yPl (by omega) e e' (hp V2 f))⟩
    rw [eh]
    exact Int32.le_refl _
  · refine ⟨is9, br_f ?_ (im_yC77 hs ha (by omega) e f (fun V3 f3 => k V3 f3))⟩
    rw [eh]
    exact nI_ge hy (by omega)
theorem im_yS84 {post : Int32 → Prop} {J : Int32 → Prop} {a b w y : Nat} {r : Int32} (ha : a < 8) (hb : b < 8) (w8 : w ≤ 8) (hy : y < 8) (e : W a = nI w)
    (hr : r = 0 ∨ ∀ x, x < w → V (64 * a + (8 * y + x)) = V (64 * b + (8 * y + x))) (hp : r = 0 → post r) (hJ : (∀ x, x < w → V (64 * a + (8 * y + x)) = V (64 * b + (8 * y + x))) → J (nI (y + 1))) :
    ∃ n, wY_same_84 post J (nI a) (nI b) (nI y) V W H T D F n 0 := by
  have is9 : vp_in (nI a) 9 := vp_in_nI (by omega) (by decide)
  have ew : W (nI a).toNatClampNeg = nI w := by rw [nI_clamp (by omega)]; exact e
  refine loop_0 (fun n x (_ : Unit) => wY_same_84 post J (nI a) (nI b) (nI y) V W H T D F n (nI x)) (fun x _ => ∀ c, c < x → V (64 * a + (8 * y + c)) = V (64 * b + (8 * y + c))) w () (fun k h => absurd h (Nat.not_lt_zero k)) (fun n _ f => ?_) (fun n x _ hx f k => ?_)
  · refine ⟨is9, br_t ?_ (nm_r (nI_1 y) (hJ f))⟩
    rw [ew]
    exact Int32.le_refl _
  · refine ⟨is9, br_f ?_ ⟨pk_in (64 * a + (8 * y + x)) 576 (by omega) (im_y1 a y x), pk_in (64 * b + (8 * y + x)) 576 (by omega) (im_y1 b y x), ?_⟩⟩
    · rw [ew]
      exact nI_ge hx (by omega)
    · rw [im_y1 a y x, im_y1 b y x, nI_clamp (by omega), nI_clamp (by omega)]
      refine br_c (fun e => nm_r (nI_1 x) (k () (lt_s f e))) (fun ne => ?_)
      rcases hr with z | g
      · have hz := hp z
        rw [z] at hz
        exact hz
      · exact absurd (g x hx) ne
theorem im_yS71 {post : Int32 → Prop} {a b w h : Nat} {r : Int32} (ha : a < 8) (hb : b < 8) (w8 : w ≤ 8) (h8 : h ≤ 8) (e : W a = nI w) (e' : H a = nI h)
    (hr : (r = 1 ∧ ∀ y x, y < h → x < w → V (64 * a + (8 * y + x)) = V (64 * b + (8 * y + x))) ∨ (r = 0 ∧ ∃ y x, y < h ∧ x < w ∧ V (64 * a + (8 * y + x)) ≠ V (64 * b + (8 * y + x)))) (hp : post r) :
    ∃ n, wY_same_71 post (nI a) (nI b) V W H T D F n 0 := by
  have is9 : vp_in (nI a) 9 := vp_in_nI (by omega) (by decide)
  have eh : H (nI a).toNatClampNeg = nI h := by rw [nI_clamp (by omega)]; exact e'
  refine loop_0 (fun n y (_ : Unit) => wY_same_71 post (nI a) (nI b) V W H T D F n (nI y)) (fun y _ => ∀ c, c < y → ∀ x, x < w → V (64 * a + (8 * c + x)) = V (64 * b + (8 * c + x))) h () (fun k h => absurd h (Nat.not_lt_zero k)) (fun n _ f => ?_) (fun n y _ hy f k => ?_)
  · refine ⟨is9, br_t ?_ ?_⟩
    · rw [eh]
      exact Int32.le_refl _
    · rcases hr with ⟨z, _⟩ | ⟨_, c, x, hc, hx, ne⟩
      · rw [← z]; exact hp
      · exact absurd (f c hc x hx) ne
  · refine ⟨is9, br_f ?_ (im_yS84 (r := r) ha hb w8 (by omega) e ?_ (fun _ => hp) (fun g => k () (lt_s f g)))⟩
    · rw [eh]
      exact nI_ge hy (by omega)
    · rcases hr with ⟨_, g⟩ | ⟨z, _⟩
      · exact Or.inr (fun x hx => g y x hy hx)
      · exact Or.inl z
end
