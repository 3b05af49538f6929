/-! pure rows: stores of one value, paint, mirrored rows, copies of slots, quarter turns -/
theorem im_us {f : Nat → Int32} {k j : Nat} : upd f k (f j) j = f j := by
  unfold upd
  split <;> rfl
/-- one value set, X's side -/
theorem im_setX {s w h a b : Nat} {p : Nat → Nat → Int32} {W H V : Nat → Int32} {c : Int32} (bd : im_Bd w h) (ha : a < w) (hb : b < h) (P : im_XP s w h p W H V) :
    im_XP s w h (fun y x => if y = b ∧ x = a then c else p y x) W H (upd V (64 * s + (b * w + a)) c) ∧ im_XF s W H V W H (upd V (64 * s + (b * w + a)) c) := by
  have i0 := im_ix hb ha
  have i2 := im_64b bd.2.1 bd.2.2.2
  refine ⟨⟨P.1, P.2.1, fun y x hy hx => ?_⟩, fun _ _ => ⟨rfl, rfl⟩, fun j hj => pk_un (by omega)⟩
  dsimp only
  by_cases e : y = b ∧ x = a
  · rw [if_pos e, e.1, e.2, pk_us]
  · rw [if_neg e, pk_un]
    · exact P.2.2 y x hy hx
    · intro z
      exact e (im_inj hx ha (by omega))
/-- one value set, Y's side -/
theorem im_setY {s w h a b : Nat} {p : Nat → Nat → Int32} {V W H T : Nat → Int32} {c : Int32} (bd : im_Bd w h) (ha : a < w) (hb : b < h) (P : im_YP s w h p V W H T) :
    im_YP s w h (fun y x => if y = b ∧ x = a then c else p y x) (upd V (64 * s + (8 * b + a)) c) W H T ∧ im_YF s V W H T (upd V (64 * s + (8 * b + a)) c) W H T := by
  have i1 := bd.2.1
  have i2 := bd.2.2.2
  refine ⟨⟨P.1, P.2.1, P.2.2.1, fun y x hy hx => ?_⟩, fun _ _ _ => ⟨rfl, rfl, rfl⟩, fun j hj _ => pk_un (by omega)⟩
  dsimp only
  by_cases e : y = b ∧ x = a
  · rw [if_pos e, e.1, e.2, pk_us]
  · rw [if_neg e, pk_un (by omega)]
    exact P.2.2.2 y x hy hx
/-! paint: from place f on, n places get q 0, q 1 .. -/
def im_pnt (w f n : Nat) (q : Nat → Int32) (p : Nat → Nat → Int32) (y x : Nat) : Int32 :=
  if f ≤ y * w + x ∧ y * w + x < f + n then q (y * w + x - f) else p y x
def im_PG (b w h f i : Nat) (q : Nat → Int32) (p : Nat → Nat → Int32) (V V' : Nat → Int32) : Prop :=
  (∀ r c, r < h → c < w → V' (b + (8 * r + c)) = im_pnt w f i q p r c) ∧ (∀ j, (j < b ∨ b + 64 ≤ j) → V' j = V j)
theorem im_pg0 {b w h f : Nat} {q : Nat → Int32} {p : Nat → Nat → Int32} {V : Nat → Int32} (P : ∀ r c, r < h → c < w → V (b + (8 * r + c)) = p r c) : im_PG b w h f 0 q p V V := by
  refine ⟨fun r c hr hc => ?_, fun _ _ => rfl⟩
  unfold im_pnt
  rw [if_neg (by omega)]
  exact P r c hr hc
theorem im_pg1 {b w h f i : Nat} {q : Nat → Int32} {p : Nat → Nat → Int32} {V V' : Nat → Int32} (bd : im_Bd w h) (F : im_PG b w h f i q p V V') (hi : f + i < h * w) {c : Int32} (hc : c = q i) {j : Nat} (hj : j = b + (8 * ((f + i) / w) + (f + i) % w)) :
    im_PG b w h f (i + 1) q p V (upd V' j c) := by
  obtain ⟨w0, w8, h0, h8⟩ := bd
  have ek : (f + i) / w * w + (f + i) % w = f + i := Nat.div_add_mod' (f + i) w
  have c0 : (f + i) % w < w := Nat.mod_lt _ w0
  have r0 : (f + i) / w < h := Nat.div_lt_of_lt_mul (by rw [Nat.mul_comm]; exact hi)
  revert ek c0 r0 hj
  generalize (f + i) / w = a
  generalize (f + i) % w = d
  intro hj ek c0 r0
  subst hj
  refine ⟨fun r x hr hx => ?_, fun j hj => ?_⟩
  · by_cases e : r = a ∧ x = d
    · rw [e.1, e.2, pk_us]
      unfold im_pnt
      rw [ek, if_pos (by omega), show f + i - f = i by omega]
      exact hc
    · have ne : r * w + x ≠ f + i := fun z => e (im_inj hx c0 (z.trans ek.symm))
      rw [pk_un (by omega), F.1 r x hr hx]
      unfold im_pnt
      by_cases z : f ≤ r * w + x ∧ r * w + x < f + i
      · rw [if_pos z, if_pos (by omega)]
      · rw [if_neg z, if_neg (by omega)]
  · rw [pk_un (by omega)]
    exact F.2 j hj
theorem im_pntX {s w h f n : Nat} {q : Nat → Int32} {p : Nat → Nat → Int32} {W H V V' : Nat → Int32} (bd : im_Bd w h) (P : im_XP s w h p W H V) (hn : f + n ≤ h * w) (F : im_Fill (64 * s + f) n q V V') :
    im_XP s w h (im_pnt w f n q p) W H V' ∧ im_XF s W H V W H V' := by
  have i2 := im_64b bd.2.1 bd.2.2.2
  refine ⟨⟨P.1, P.2.1, fun y x hy hx => ?_⟩, fun _ _ => ⟨rfl, rfl⟩, fun j hj => F.2 j (by omega)⟩
  unfold im_pnt
  by_cases z : f ≤ y * w + x ∧ y * w + x < f + n
  · have e := F.1 (y * w + x - f) (by omega)
    rw [show 64 * s + f + (y * w + x - f) = 64 * s + (y * w + x) by omega] at e
    rw [if_pos z, e]
  · rw [if_neg z, F.2 _ (by omega)]
    exact P.2.2 y x hy hx
theorem im_pntY {s w h f n : Nat} {q : Nat → Int32} {p : Nat → Nat → Int32} {V V' W H T : Nat → Int32} (P : im_YP s w h p V W H T) (F : im_PG (64 * s) w h f n q p V V') :
    im_YP s w h (im_pnt w f n q p) V' W H T ∧ im_YF s V W H T V' W H T :=
  ⟨⟨P.1, P.2.1, P.2.2.1, F.1⟩, fun _ _ _ => ⟨rfl, rfl, rfl⟩, fun j hj _ => F.2 j hj⟩
/-! a row of w places from st on, mirrored by x swaps -/
def im_MR (st w x : Nat) (V V' : Nat → Int32) : Prop :=
  (∀ j, j < w → V' (st + j) = if j < x ∨ w - 1 - j < x then V (st + (w - 1 - j)) else V (st + j)) ∧ (∀ j, (j < st ∨ st + w ≤ j) → V' j = V j)
theorem im_mr0 (st w : Nat) (V : Nat → Int32) : im_MR st w 0 V V :=
  ⟨fun j _ => by rw [if_neg (by omega)], fun _ _ => rfl⟩
theorem im_mr1 {st w x : Nat} {V V' : Nat → Int32} (F : im_MR st w x V V') (hx : x < w / 2) {a b : Nat} (ha : a = st + x) (hb : b = st + (w - 1 - x)) :
    im_MR st w (x + 1) V (upd (upd V' a (V' b)) b (V' a)) := by
  subst ha hb
  have e1 : V' (st + x) = V (st + x) := by
    rw [F.1 x (by omega), if_neg (by omega)]
  have e2 : V' (st + (w - 1 - x)) = V (st + (w - 1 - x)) := by
    rw [F.1 (w - 1 - x) (by omega), if_neg (by omega)]
  rw [e1, e2]
  refine ⟨fun j hj => ?_, fun j hj => ?_⟩
  · by_cases z : j = w - 1 - x
    · rw [z, pk_us, if_pos (by omega), show w - 1 - (w - 1 - x) = x by omega]
    · rw [pk_un (by omega)]
      by_cases y : j = x
      · rw [y, pk_us, if_pos (by omega)]
      · rw [pk_un (by omega), F.1 j hj]
        by_cases c : j < x ∨ w - 1 - j < x
        · rw [if_pos c, if_pos (by omega)]
        · rw [if_neg c, if_neg (by omega)]
  · rw [pk_un (by omega), pk_un (by omega)]
    exact F.2 j hj
theorem im_mrE {st w : Nat} {V V' : Nat → Int32} (F : im_MR st w (w / 2) V V') : im_Fill st w (fun j => V (st + (w - 1 - j))) V V' := by
  refine ⟨fun j hj => ?_, F.2⟩
  show V' (st + j) = V (st + (w - 1 - j))
  rw [F.1 j hj]
  by_cases c : j < w / 2 ∨ w - 1 - j < w / 2
  · rw [if_pos c]
  · rw [if_neg c, show w - 1 - j = j by omega]
/-! copies of slots -/
theorem im_copyX {t s w h n : Nat} {p : Nat → Nat → Int32} {W H V V' : Nat → Int32} (bd : im_Bd w h) (P : im_XP s w h p W H V) (hn : n = h * w) (F : im_Fill (64 * t) n (fun k => V (64 * s + k)) V V') :
    im_XP t w h p (upd W t (W s)) (upd H t (H s)) V' ∧ im_XF t W H V (upd W t (W s)) (upd H t (H s)) V' := by
  have i2 := im_64b bd.2.1 bd.2.2.2
  refine ⟨⟨pk_us.trans P.1, pk_us.trans P.2.1, im_xpF F (by omega) P.2.2⟩, fun j hj => ⟨pk_un hj, pk_un hj⟩, fun j hj => F.2 j (by omega)⟩
theorem im_copyY {t s w h : Nat} {p : Nat → Nat → Int32} {V W H T V' : Nat → Int32} (bd : im_Bd w h) (P : im_YP s w h p V W H T) (F : im_Fill (64 * t) 64 (fun k => V (64 * s + k)) V V') :
    im_YP t w h p V' (upd W t (W s)) (upd H t (H s)) (upd T t 1) ∧ im_YF t V W H T V' (upd W t (W s)) (upd H t (H s)) (upd T t 1) := by
  have i1 := bd.2.1
  have i2 := bd.2.2.2
  refine ⟨⟨pk_us, pk_us.trans P.2.1, pk_us.trans P.2.2.1, fun y x hy hx => ?_⟩, fun j hj _ => ⟨pk_un hj, pk_un hj, pk_un hj⟩, fun j hj _ => F.2 j hj⟩
  exact (F.1 (8 * y + x) (by omega)).trans (P.2.2.2 y x hy hx)
