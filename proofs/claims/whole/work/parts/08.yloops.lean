/-! Y's loops: create, level, paint, quarter and turn, mirror, crop, same -/
theorem im_yfT {s : Nat} {V W H T V1 W1 H1 T1 V2 W2 H2 T2 : Nat → Int32} (a : im_YF s V W H T V1 W1 H1 T1) (b : im_YF s V1 W1 H1 T1 V2 W2 H2 T2) : im_YF s V W H T V2 W2 H2 T2 :=
  ⟨fun t ht h8 => ⟨(b.1 t ht h8).1.trans (a.1 t ht h8).1, (b.1 t ht h8).2.1.trans (a.1 t ht h8).2.1, (b.1 t ht h8).2.2.trans (a.1 t ht h8).2.2⟩, fun j hj h => (b.2 j hj h).trans (a.2 j hj h)⟩
theorem im_yf0 {s : Nat} {V W H T : Nat → Int32} : im_YF s V W H T V W H T := ⟨fun _ _ _ => ⟨rfl, rfl, rfl⟩, fun _ _ _ => rfl⟩
section
variable {V W H T D F : Nat → Int32}
theorem im_yCr {post : Int32 → SY → Prop} {s w h : Nat} {q : Int32} (hs : s < 8) (e : W s = nI w) (e' : H s = nI h)
    (hp : ∀ V2, im_Fill (64 * s) 64 (fun _ => q &&& 255) V V2 → post (nI (h * w)) (V2, W, H, T, D, F)) :
    ∃ n, wY_create_55 post (nI s) q n 0 V W H T D F :=
  loop_0 (fun n i V2 => wY_create_55 post (nI s) q n (nI i) V2 W H T D F) (fun i V2 => im_Fill (64 * s) i (fun _ => q &&& 255) V V2) 64 V (im_fill0 _ _ _)
    (fun n V2 f => br_t (Int32.le_refl _) (im_yPl (by omega) e e' (hp V2 f)))
    (fun n i V2 hi f k => br_f (nI_ge (b := 64) hi (by decide)) (im_st (64 * s + i) (by rw [im_e64', nI_add]) (by omega) (by decide) (nm_r (nI_1 i) (k _ (im_fill1 f rfl rfl)))))
theorem im_yLv {post : Int32 → SY → Prop} {s w h : Nat} {a b : Int32} (hs : s < 8) (e : W s = nI w) (e' : H s = nI h)
    (hp : ∀ V2, im_Fill (64 * s) 64 (fun k => (V (64 * s + k) * a + b) &&& 255) V V2 → post (nI (h * w)) (V2, W, H, T, D, F)) :
    ∃ n, wY_level_27 post (nI s) a b n (nI (64 * s)) V W H T D F := by
  have lim : 64 * nI s + 64 = nI (64 * s + 64) := by rw [im_e64', im_64, nI_add]
  refine loop_0 (fun n i V2 => wY_level_27 post (nI s) a b n (nI (64 * s + i)) V2 W H T D F) (fun i V2 => im_Fill (64 * s) i (fun k => (V (64 * s + k) * a + b) &&& 255) V V2) 64 V (im_fill0 _ _ _) (fun n V2 f => ?_) (fun n i V2 hi f k => ?_)
  · refine br_t ?_ (im_yPl (by omega) e e' (hp V2 f))
    rw [lim]
    exact Int32.le_refl _
  · refine br_f ?_ ⟨vp_in_nI (by omega) (by decide), im_st (64 * s + i) rfl (by omega) (by decide) (nm_r (nI_1 (64 * s + i)) (k _ (im_fill1 f ?_ rfl)))⟩
    · rw [lim]
      exact nI_ge (by omega) (by omega)
    · rw [nI_clamp (by omega), f.2 _ (Or.inr (Nat.le_refl _))]
theorem im_yPn {post : Int32 → SY → Prop} {s w h g c : Nat} {q : Int32} {p : Nat → Nat → Int32} (hs : s < 8) (bd : im_Bd w h) (hc : g + c ≤ h * w) (P : im_YP s w h p V W H T)
    (hp : ∀ V2, im_PG (64 * s) w h g c (fun j => (q + nI j * (q >>> ((8 : Int32) &&& 31))) &&& 255) p V V2 → post (nI c) (V2, W, H, T, D, F)) :
    ∃ n, wY_paint_63 post (nI s) (nI g) (nI c) q (nI w) n 0 V W H T D F := by
  have c64 := im_64b bd.2.1 bd.2.2.2
  have w0 := bd.1
  have w8 := bd.2.1
  have wn : ¬ nI w = 0 := nI_ne0 w0 (by omega)
  refine loop_0 (fun n i V2 => wY_paint_63 post (nI s) (nI g) (nI c) q (nI w) n (nI i) V2 W H T D F) (fun i V2 => im_PG (64 * s) w h g i (fun j => (q + nI j * (q >>> ((8 : Int32) &&& 31))) &&& 255) p V V2) c V (im_pg0 P.2.2.2) (fun n V2 f => br_t (Int32.le_refl _) (hp V2 f)) (fun n i V2 hi f k => ?_)
  have r0 : (g + i) / w < h := Nat.div_lt_of_lt_mul (by rw [Nat.mul_comm]; omega)
  have m0 : (g + i) % w < w := Nat.mod_lt _ w0
  have h8 := bd.2.2.2
  refine br_f (nI_ge hi (by omega)) (nm_r (nI_add g i) (br_f (nI_nle w0 (by omega)) ⟨wn, wn, im_st (64 * s + (8 * ((g + i) / w) + (g + i) % w)) ?_ (by omega) (by decide) (nm_r (nI_1 i) (k _ (im_pg1 bd f (by omega) rfl rfl)))⟩))
  rw [pk_rem (by omega) w0 (by omega), pk_div (by omega) w0 (by omega), im_y1]
/-! quarter: slot 8 holds the old picture; a grid of h columns and w rows -/
theorem im_yq1 {h x y : Nat} (hx : x < h) : 512 + 8 * (nI h - 1 - nI x) + nI y = nI (512 + (8 * (h - 1 - x) + y)) := by
  rw [im_1, pk_sub (by omega), pk_sub (by omega), im_e8, im_512, nI_add, nI_add, Nat.add_assoc]
theorem im_yQ47 {post : SY → Prop} {J : Int32 → (Nat → Int32) → (Nat → Int32) → (Nat → Int32) → (Nat → Int32) → (Nat → Int32) → (Nat → Int32) → Prop} {s w h y : Nat} {V1 : Nat → Int32} (hs : s < 8) (bd : im_Bd w h) (hy : y < w)
    (e : W s = nI h) (e8 : H 8 = nI h) (f : im_Grid (64 * s) h y 0 (fun y x => V (512 + (8 * (h - 1 - x) + y))) V V1)
    (hJ : ∀ V2, im_Grid (64 * s) h (y + 1) 0 (fun y x => V (512 + (8 * (h - 1 - x) + y))) V V2 → J (nI (y + 1)) V2 W H T D F) :
    ∃ n, wY_quarter_47 post J (nI s) (nI y) n 0 V1 W H T D F := by
  obtain ⟨w0, w8, h0, h8⟩ := bd
  have is9 : vp_in (nI s) 9 := vp_in_nI (by omega) (by decide)
  have ew : W (nI s).toNatClampNeg = nI h := by rw [nI_clamp (by omega)]; exact e
  refine loop_0 (fun n x V2 => wY_quarter_47 post J (nI s) (nI y) n (nI x) V2 W H T D F) (fun x V2 => im_Grid (64 * s) h y x (fun y x => V (512 + (8 * (h - 1 - x) + y))) V V2) h V1 f (fun n V2 f2 => ?_) (fun n x V2 hx f2 k => ?_)
  · refine ⟨is9, br_t ?_ (nm_r (nI_1 y) (hJ V2 (im_gridR f2)))⟩
    rw [ew]
    exact Int32.le_refl _
  · refine ⟨is9, br_f ?_ ⟨pk_in (512 + (8 * (h - 1 - x) + y)) 576 (by omega) (by rw [e8, im_yq1 hx]), im_st (64 * s + (8 * y + x)) (im_y1 s y x) (by omega) (by decide) (nm_r (nI_1 x) (k _ (im_grid1 f2 h8 (by omega) hx ?_ rfl)))⟩⟩
    · rw [ew]
      exact nI_ge hx (by omega)
    · rw [e8, im_yq1 hx, nI_clamp (by omega)]
      exact f2.2 _ (by omega)
theorem im_yQ35 {post : SY → Prop} {s w h : Nat} (hs : s < 8) (bd : im_Bd w h) (e : W s = nI h) (e' : H s = nI w) (e8 : H 8 = nI h)
    (hp : ∀ V2, im_Grid (64 * s) h w 0 (fun y x => V (512 + (8 * (h - 1 - x) + y))) V V2 → post (V2, W, H, T, D, F)) :
    ∃ n, wY_quarter_35 post (nI s) n 0 V W H T D F := by
  have w8 := bd.2.1
  have is9 : vp_in (nI s) 9 := vp_in_nI (by omega) (by decide)
  have eh : H (nI s).toNatClampNeg = nI w := by rw [nI_clamp (by omega)]; exact e'
  refine loop_0 (fun n y V2 => wY_quarter_35 post (nI s) n (nI y) V2 W H T D F) (fun y V2 => im_Grid (64 * s) h y 0 (fun y x => V (512 + (8 * (h - 1 - x) + y))) V V2) w V (im_grid0 _ _ _ _) (fun n V2 f => ?_) (fun n y V2 hy f k => ?_)
  · refine ⟨is9, br_t ?_ (hp V2 f)⟩
    rw [eh]
    exact Int32.le_refl _
  · refine ⟨is9, br_f ?_ (im_yQ47 hs bd hy e e8 f (fun V3 f3 => k V3 f3))⟩
    rw [eh]
    exact nI_ge hy (by omega)
theorem im_yQu {post : SY → Prop} {s w h : Nat} {p : Nat → Nat → Int32} (hs : s < 8) (bd : im_Bd w h) (P : im_YP s w h p V W H T)
    (hp : ∀ V2 W2 H2 T2 D2 F2, im_YP s h w (fun y x => p (h - 1 - x) y) V2 W2 H2 T2 → im_YF s V W H T V2 W2 H2 T2 → (∀ t, t < 8 → D2 t = D t ∧ F2 t = F t) → post (V2, W2, H2, T2, D2, F2)) :
    wpY_quarter post (V, W, H, T, D, F) (nI s) := by
  have h8 := bd.2.2.2
  have w8 := bd.2.1
  unfold wpY_quarter; dsimp only
  refine im_yBc (t := 8) (by omega) (by decide) (fun V1 f1 => ?_)
  dsimp only
  refine im_st s rfl (by omega) (by decide) (im_st s rfl (by omega) (by decide) ?_)
  have n8 : 8 ≠ s := by omega
  refine im_yQ35 hs bd ?_ ?_ ?_ (fun V2 f2 => hp V2 _ _ _ _ _ ⟨?_, ?_, ?_, ?_⟩ ⟨?_, ?_⟩ ?_)
  · rw [pk_us, pk_us]; exact P.2.2.1
  · rw [pk_us, pk_un n8, pk_us]; exact P.2.1
  · rw [pk_un n8, pk_us]; exact P.2.2.1
  · rw [pk_un n8.symm]; exact P.1
  · rw [pk_us, pk_us]; exact P.2.2.1
  · rw [pk_us, pk_un n8, pk_us]; exact P.2.1
  · intro y x hy hx
    rw [im_ypG f2 y x hy hx]
    show V1 (512 + (8 * (h - 1 - x) + y)) = p (h - 1 - x) y
    have q := f1.1 (8 * (h - 1 - x) + y) (by omega)
    exact q.trans (P.2.2.2 _ _ (by omega) hy)
  · intro t ht t8
    have nt : t ≠ 8 := by omega
    rw [pk_un ht, pk_un nt, pk_un ht, pk_un nt, pk_un nt]
    exact ⟨rfl, rfl, rfl⟩
  · intro j hj j5
    exact (f2.2 j hj).trans (f1.2 j (by omega))
  · intro t t8
    have nt : t ≠ 8 := by omega
    rw [pk_un nt, pk_un nt]
    exact ⟨rfl, rfl⟩
theorem im_yTu {post : Int32 → SY → Prop} {s w h m : Nat} {p : Nat → Nat → Int32} {q : Int32} (hs : s < 8) (bd : im_Bd w h) (hm : m < 4) (eq : q &&& 3 = nI m) (P : im_YP s w h p V W H T)
    (hp : ∀ V2 W2 H2 T2 D2 F2, im_YP s (im_rots (w, h, p) m).1 (im_rots (w, h, p) m).2.1 (im_rots (w, h, p) m).2.2 V2 W2 H2 T2 → im_YF s V W H T V2 W2 H2 T2 → (∀ t, t < 8 → D2 t = D t ∧ F2 t = F t) → post (nI (im_rots (w, h, p) m).1) (V2, W2, H2, T2, D2, F2)) :
    ∃ n, wY_turn_23 post (nI s) q n 0 V W H T D F := by
  refine loop_0 (fun n i (z : (Nat → Int32) × (Nat → Int32) × (Nat → Int32) × (Nat → Int32) × (Nat → Int32) × (Nat → Int32)) => wY_turn_23 post (nI s) q n (nI i) z.1 z.2.1 z.2.2.1 z.2.2.2.1 z.2.2.2.2.1 z.2.2.2.2.2) (fun i z => im_YP s (im_rots (w, h, p) i).1 (im_rots (w, h, p) i).2.1 (im_rots (w, h, p) i).2.2 z.1 z.2.1 z.2.2.1 z.2.2.2.1 ∧ im_YF s V W H T z.1 z.2.1 z.2.2.1 z.2.2.2.1 ∧ ∀ t, t < 8 → z.2.2.2.2.1 t = D t ∧ z.2.2.2.2.2 t = F t) m (V, W, H, T, D, F) ⟨P, im_yf0, fun _ _ => ⟨rfl, rfl⟩⟩ (fun n z f => ?_) (fun n i z hi f k => ?_)
  · refine br_t ?_ ⟨vp_in_nI (by omega) (by decide), ?_⟩
    · rw [eq]; exact Int32.le_refl _
    · rw [nI_clamp (by omega), f.1.2.1]
      exact hp _ _ _ _ _ _ f.1 f.2.1 f.2.2
  · refine br_f ?_ (im_yQu hs (im_rotB (t := (w, h, p)) bd i) f.1 (fun V2 W2 H2 T2 D2 F2 a b c => nm_r (nI_1 i) (k (V2, W2, H2, T2, D2, F2) ⟨a, im_yfT f.2.1 b, fun t ht => ⟨(c t ht).1.trans (f.2.2 t ht).1, (c t ht).2.trans (f.2.2 t ht).2⟩⟩)))
    rw [eq]
    exact nI_ge hi (by omega)
end
