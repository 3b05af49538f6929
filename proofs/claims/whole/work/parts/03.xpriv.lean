/-! X's own methods without loops, each with a general post -/
theorem im_e64 (s : Nat) : nI s * 64 = nI (64 * s) := by rw [im_64, pk_mul, Nat.mul_comm]
theorem im_e64' (s : Nat) : 64 * nI s = nI (64 * s) := by rw [im_64, pk_mul]
theorem im_e8 (s : Nat) : 8 * nI s = nI (8 * s) := by rw [im_8, pk_mul]
theorem im_e4 (f : Nat) : 4 + nI f = nI (4 + f) := by rw [im_4, nI_add]
theorem im_x1 (s b w a : Nat) : nI s * 64 + nI b * nI w + nI a = nI (64 * s + (b * w + a)) := by
  rw [im_e64, pk_mul, nI_add, nI_add, Nat.add_assoc]
theorem im_10 : ¬ (1 : Int32) = 0 := by decide
section
variable {W H V F D U : Nat → Int32}
theorem im_xUn {post : Int32 → Prop} {p : Int32} (h : p < 0 ∨ nI 4 ≤ p) (hp : post 1) : wpX_isUnknown post p :=
  br_c (fun _ => hp) (fun h0 => br_f (fun h4 => Int32.not_lt.mpr (h.resolve_left h0) h4) hp)
theorem im_xUk {post : Int32 → Prop} {s : Nat} (hs : s < 4) (hp : post 0) : wpX_isUnknown post (nI s) :=
  br_f (nI_pos (by omega)) (br_t (nI_lt (b := 4) hs (by decide)) hp)
theorem im_xSn {post : Int32 → Prop} {p q : Int32} (h : p < 1 ∨ ¬ p ≤ q) (hp : post 1) : wpX_isNoSide post p q :=
  br_c (fun _ => hp) (fun h0 => br_f (h.resolve_left h0) hp)
theorem im_xSk {post : Int32 → Prop} {p q : Int32} (h : ¬ p < 1) (h' : p ≤ q) (hp : post 0) : wpX_isNoSide post p q :=
  br_f h (br_t h' hp)
theorem im_xAbT {post : Int32 → Prop} {s : Nat} (hs : s < 8) (e : W s = 0) (hp : post 1) : wpX_isAbsent post (W, H, V, F, D, U) (nI s) :=
  ⟨vp_in_nI hs (by decide), br_t (by rw [nI_clamp (by omega)]; exact e) hp⟩
theorem im_xAbF {post : Int32 → Prop} {s : Nat} (hs : s < 8) (e : ¬ W s = 0) (hp : post 0) : wpX_isAbsent post (W, H, V, F, D, U) (nI s) :=
  ⟨vp_in_nI hs (by decide), br_f (by rw [nI_clamp (by omega)]; exact e) hp⟩
theorem im_xIfU {post : Int32 → Prop} {p : Int32} (h : p < 0 ∨ nI 4 ≤ p) (hp : post (-1)) : wpX_imageFault post (W, H, V, F, D, U) p := by
  unfold wpX_imageFault; dsimp only
  exact im_xUn h (br_f im_10 hp)
theorem im_xIfN {post : Int32 → Prop} {s : Nat} (hs : s < 4) (e : W s = 0) (hp : post (-2)) : wpX_imageFault post (W, H, V, F, D, U) (nI s) := by
  unfold wpX_imageFault; dsimp only
  exact im_xUk hs (br_t rfl (im_xAbT (by omega) e (br_f im_10 hp)))
theorem im_xIfP {post : Int32 → Prop} {s w : Nat} (hs : s < 4) (e : W s = nI w) (h0 : 0 < w) (h8 : w ≤ 8) (hp : post 0) : wpX_imageFault post (W, H, V, F, D, U) (nI s) := by
  unfold wpX_imageFault; dsimp only
  exact im_xUk hs (br_t rfl (im_xAbF (by omega) (by rw [e]; exact nI_ne0 h0 (by omega)) (br_t rfl hp)))
theorem im_xNpT {post : Int32 → Prop} {s w h : Nat} {p1 p2 : Int32} (hs : s < 8) (e : W s = nI w) (e' : H s = nI h) (o : p1 < 0 ∨ nI w ≤ p1 ∨ p2 < 0 ∨ nI h ≤ p2) (hp : post 1) : wpX_isNoPlace post (W, H, V, F, D, U) (nI s) p1 p2 := by
  unfold wpX_isNoPlace; dsimp only
  rw [nI_clamp (n := s) (by omega), e, e']
  refine br_c (fun _ => hp) (fun h1 => ⟨vp_in_nI hs (by decide), br_c (fun _ => hp) (fun h2 => br_c (fun _ => hp) (fun h3 => ⟨vp_in_nI hs (by decide), br_f (fun h4 => ?_) hp⟩))⟩)
  rcases o with o | o | o | o
  · exact h1 o
  · exact h2 o
  · exact h3 o
  · exact Int32.not_lt.mpr o h4
theorem im_xNpF {post : Int32 → Prop} {s w h a b : Nat} (hs : s < 8) (e : W s = nI w) (e' : H s = nI h) (w8 : w ≤ 8) (h8 : h ≤ 8) (ha : a < w) (hb : b < h) (hp : post 0) : wpX_isNoPlace post (W, H, V, F, D, U) (nI s) (nI a) (nI b) := by
  unfold wpX_isNoPlace; dsimp only
  rw [nI_clamp (n := s) (by omega), e, e']
  exact br_f (nI_pos (by omega)) ⟨vp_in_nI hs (by decide), br_f (nI_ge ha (by omega)) (br_f (nI_pos (by omega)) ⟨vp_in_nI hs (by decide), br_t (nI_lt hb (by omega)) hp⟩)⟩
theorem im_xIx {post : Int32 → Prop} {s w a b : Nat} (hs : s < 8) (e : W s = nI w) (hp : post (nI (64 * s + (b * w + a)))) : wpX_indexOf post (W, H, V, F, D, U) (nI s) (nI a) (nI b) := by
  unfold wpX_indexOf; dsimp only
  rw [nI_clamp (n := s) (by omega), e, im_x1]
  exact ⟨vp_in_nI hs (by decide), hp⟩
theorem im_xPl {post : Int32 → Prop} {s w h : Nat} (hs : s < 8) (e : W s = nI w) (e' : H s = nI h) (hp : post (nI (h * w))) : wpX_placesOf post (W, H, V, F, D, U) (nI s) := by
  unfold wpX_placesOf; dsimp only
  rw [nI_clamp (n := s) (by omega), e, e', pk_mul, Nat.mul_comm]
  exact ⟨vp_in_nI hs (by decide), vp_in_nI hs (by decide), hp⟩
theorem im_xFfU {post : Int32 → Prop} {p : Int32} (h : p < 0 ∨ nI 4 ≤ p) (hp : post (-1)) : wpX_fileFault post (W, H, V, F, D, U) p := by
  unfold wpX_fileFault; dsimp only
  exact im_xUn h (br_f im_10 hp)
theorem im_xFfN {post : Int32 → Prop} {f : Nat} (hf : f < 4) (e : W (4 + f) = 0) (hp : post (-2)) : wpX_fileFault post (W, H, V, F, D, U) (nI f) := by
  unfold wpX_fileFault; dsimp only
  rw [im_e4]
  exact im_xUk hf (br_t rfl (im_xAbT (by omega) e (br_f im_10 hp)))
theorem im_xFfB {post : Int32 → Prop} {f w : Nat} (hf : f < 4) (e : W (4 + f) = nI w) (h0 : 0 < w) (h8 : w ≤ 8) (d : ¬ D f = 0) (hp : post (-3)) : wpX_fileFault post (W, H, V, F, D, U) (nI f) := by
  unfold wpX_fileFault; dsimp only
  rw [im_e4, nI_clamp (n := f) (by omega)]
  exact im_xUk hf (br_t rfl (im_xAbF (by omega) (by rw [e]; exact nI_ne0 h0 (by omega)) (br_t rfl ⟨vp_in_nI hf (by decide), br_f d hp⟩)))
theorem im_xFfP {post : Int32 → Prop} {f w : Nat} (hf : f < 4) (e : W (4 + f) = nI w) (h0 : 0 < w) (h8 : w ≤ 8) (d : D f = 0) (hp : post 0) : wpX_fileFault post (W, H, V, F, D, U) (nI f) := by
  unfold wpX_fileFault; dsimp only
  rw [im_e4, nI_clamp (n := f) (by omega)]
  exact im_xUk hf (br_t rfl (im_xAbF (by omega) (by rw [e]; exact nI_ne0 h0 (by omega)) (br_t rfl ⟨vp_in_nI hf (by decide), br_t d hp⟩)))
end
