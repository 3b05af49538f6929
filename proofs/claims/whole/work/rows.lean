section
/-! rows of the kit (pasted), then the pictures of one slot, the relation, and fills of arrays -/
theorem pk_us {f : Nat → Int32} {k : Nat} {x : Int32} : upd f k x k = x := if_pos rfl
theorem pk_un {f : Nat → Int32} {k j : Nat} {x : Int32} (h : j ≠ k) : upd f k x j = f j := if_neg h
theorem pk_sub {a b : Nat} (h : b ≤ a) : nI a - nI b = nI (a - b) := by
  obtain ⟨c, rfl⟩ : ∃ c, a = c + b := ⟨a - b, by omega⟩
  rw [← nI_add, Int32.add_sub_cancel, Nat.add_sub_cancel]
theorem pk_mul (a b : Nat) : nI a * nI b = nI (a * b) := (Int32.ofNat_mul a b).symm
theorem pk_div {a d : Nat} (ha : a < 2 ^ 31) (h0 : 0 < d) (hd : d < 2 ^ 31) : nI a / nI d = nI (a / d) := by
  apply Int32.toInt_inj.mp
  rw [lg_idiv_nonneg (by rw [nI_toInt ha]; omega) (by rw [nI_toInt hd]; omega), nI_toInt ha, nI_toInt hd, nI_toInt (Nat.lt_of_le_of_lt (Nat.div_le_self a d) ha)]
  first | rfl | exact (Int.natCast_ediv _ _).symm
theorem pk_rem {a d : Nat} (ha : a < 2 ^ 31) (h0 : 0 < d) (hd : d < 2 ^ 31) : nI a - nI a / nI d * nI d = nI (a % d) := by
  rw [pk_div ha h0 hd, pk_mul, pk_sub (Nat.div_mul_le_self a d)]
  exact congrArg nI (by have := Nat.div_add_mod' a d; omega)
theorem pk_ix (x : Int32) {n : Nat} (hn : n < 2 ^ 31) : x < 0 ∨ nI n ≤ x ∨ ∃ j : Nat, j < n ∧ x = nI j := by
  by_cases h : x < 0
  · exact Or.inl h
  · obtain ⟨j, hj, rfl⟩ := nI_of h
    by_cases h2 : j < n
    · exact Or.inr (Or.inr ⟨j, h2, rfl⟩)
    · exact Or.inr (Or.inl (nI_le (by omega) hj))
theorem pk_le {x y : Int32} {A B : Prop} (a b : Nat) (f : a ≤ b → A) (g : b < a → B) (hx : x = nI a := by rfl) (hy : y = nI b := by rfl) (ha : a < 2 ^ 31 := by omega) (hb : b < 2 ^ 31 := by omega) : (x ≤ y → A) ∧ (¬ x ≤ y → B) := by
  subst hx hy
  rw [nI_leI ha hb]
  exact ⟨f, fun z => g (by omega)⟩
theorem pk_lt {x y : Int32} {A B : Prop} (a b : Nat) (f : a < b → A) (g : b ≤ a → B) (hx : x = nI a := by rfl) (hy : y = nI b := by rfl) (ha : a < 2 ^ 31 := by omega) (hb : b < 2 ^ 31 := by omega) : (x < y → A) ∧ (¬ x < y → B) := by
  subst hx hy
  rw [nI_ltI ha hb]
  exact ⟨f, fun z => g (by omega)⟩
theorem pk_eq {x y : Int32} {A B : Prop} (a b : Nat) (f : a = b → A) (g : a ≠ b → B) (hx : x = nI a := by rfl) (hy : y = nI b := by rfl) (ha : a < 2 ^ 31 := by omega) (hb : b < 2 ^ 31 := by omega) : (x = y → A) ∧ (¬ x = y → B) := by
  subst hx hy
  rw [nI_eq ha hb]
  exact ⟨f, g⟩
theorem pk_in {x : Int32} (n N : Nat) (h : n < N) (hx : x = nI n := by rfl) (hN : N < 2 ^ 31 := by omega) : vp_in x N := by
  subst hx
  exact vp_in_nI h hN
theorem pk_cl {x : Int32} (n : Nat) (hx : x = nI n := by rfl) (h : n < 2 ^ 31 := by omega) : x.toNatClampNeg = n := by
  subst hx
  exact nI_clamp h
theorem pk_tn {n : Nat} (h : n < 2 ^ 32) : (nI n).toBitVec.toNat = n := Nat.mod_eq_of_lt h
theorem pk_and (x : Int32) {m : Int32} (k : Nat) (hm : m.toBitVec.toNat = 2 ^ k - 1) : x &&& m = nI (x.toBitVec.toNat % 2 ^ k) := by
  apply Int32.toBitVec_inj.mp
  apply BitVec.eq_of_toNat_eq
  rw [Int32.toBitVec_and, BitVec.toNat_and, hm, Nat.and_two_pow_sub_one_eq_mod]
  show _ = (BitVec.ofNat 32 _).toNat
  rw [BitVec.toNat_ofNat]
  exact (Nat.mod_eq_of_lt (Nat.lt_of_le_of_lt (Nat.mod_le _ _) x.toBitVec.isLt)).symm
theorem pk_andE (x : Int32) {m : Int32} (k : Nat) (hm : m.toBitVec.toNat = 2 ^ k - 1) : ∃ j : Nat, j < 2 ^ k ∧ x &&& m = nI j := ⟨_, Nat.mod_lt _ (Nat.two_pow_pos k), pk_and x k hm⟩
/-! numbers -/
theorem im_64 : (64 : Int32) = nI 64 := rfl
theorem im_8 : (8 : Int32) = nI 8 := rfl
theorem im_4 : (4 : Int32) = nI 4 := rfl
theorem im_1 : (1 : Int32) = nI 1 := rfl
theorem im_512 : (512 : Int32) = nI 512 := rfl
theorem im_ix {y x w h : Nat} (hy : y < h) (hx : x < w) : y * w + x < h * w := by
  have e : (y + 1) * w = y * w + w := by rw [Nat.add_mul, Nat.one_mul]
  have f : (y + 1) * w ≤ h * w := Nat.mul_le_mul_right w hy
  omega
theorem im_64b {w h : Nat} (hw : w ≤ 8) (hh : h ≤ 8) : h * w ≤ 64 := Nat.mul_le_mul hh hw
theorem im_dv {y x w : Nat} (hx : x < w) : (y * w + x) / w = y := by
  rw [Nat.mul_comm, Nat.mul_add_div (by omega), Nat.div_eq_of_lt hx, Nat.add_zero]
theorem im_md {y x w : Nat} (hx : x < w) : (y * w + x) % w = x := by
  rw [Nat.mul_comm, Nat.mul_add_mod, Nat.mod_eq_of_lt hx]
theorem im_inj {y x y' x' w : Nat} (hx : x < w) (hx' : x' < w) (e : y * w + x = y' * w + x') : y = y' ∧ x = x' := by
  have a := im_dv (y := y) hx
  have b := im_md (y := y) hx
  rw [e] at a b
  rw [im_dv hx'] at a
  rw [im_md hx'] at b
  exact ⟨a.symm, b.symm⟩
theorem im_vb0 : vp_nar .boolean 0 = 0 := by decide
theorem im_vb1 : vp_nar .boolean 1 = 1 := by decide
theorem im_vb {z : Int32} (h : z = 0 ∨ z = 1) : vp_nar .boolean z = z := by
  rcases h with rfl | rfl <;> decide
theorem im_nb {z : Int32} (h : z = 0 ∨ z = 1) : narrow .boolean (.int z) = .int z := by
  rcases h with rfl | rfl <;> rfl
/-- a store at an index that is a natural -/
theorem im_st {e : Int32} {N : Nat} {a : Nat → Int32} {c : Int32} {P : (Nat → Int32) → Prop} (n : Nat) (he : e = nI n) (hn : n < N) (hN : N < 2 ^ 31) (h : P (upd a n c)) :
    vp_in e N ∧ ∀ a' : Nat → Int32, a' = upd a e.toNatClampNeg c → P a' := by
  subst he
  exact ⟨vp_in_nI hn hN, fun a' ea => by rw [ea, nI_clamp (by omega)]; exact h⟩
/-! fills: V' is V but for i places from b on, which hold g -/
def im_Fill (b i : Nat) (g : Nat → Int32) (V V' : Nat → Int32) : Prop :=
  (∀ k, k < i → V' (b + k) = g k) ∧ (∀ j, (j < b ∨ b + i ≤ j) → V' j = V j)
theorem im_fill0 (b : Nat) (g V : Nat → Int32) : im_Fill b 0 g V V :=
  ⟨fun k h => absurd h (Nat.not_lt_zero k), fun _ _ => rfl⟩
theorem im_fill1 {b i : Nat} {g V V' : Nat → Int32} (F : im_Fill b i g V V') {c : Int32} (hc : c = g i) {j : Nat} (hj : j = b + i) : im_Fill b (i + 1) g V (upd V' j c) := by
  subst hj
  refine ⟨fun k hk => ?_, fun j hj => ?_⟩
  · by_cases e : k = i
    · rw [e, pk_us, hc]
    · rw [pk_un (by omega)]; exact F.1 k (by omega)
  · rw [pk_un (by omega)]; exact F.2 j (by omega)
theorem im_fillC {b i m : Nat} {g g' V V1 V2 : Nat → Int32} (F : im_Fill b i g V V1) (G : im_Fill (b + i) m g' V1 V2) (e : ∀ j, j < m → g' j = g (i + j)) : im_Fill b (i + m) g V V2 := by
  refine ⟨fun k hk => ?_, fun j hj => ?_⟩
  · by_cases h : k < i
    · rw [G.2 (b + k) (by omega)]; exact F.1 k h
    · have q := G.1 (k - i) (by omega)
      have e2 : b + i + (k - i) = b + k := by omega
      have e3 : i + (k - i) = k := by omega
      rw [e2] at q
      rw [q, e _ (by omega), e3]
  · rw [G.2 j (by omega)]; exact F.2 j (by omega)
/-! grids: rows of eight places; the rows above y, and x places of row y, hold p -/
def im_Grid (b w y x : Nat) (p : Nat → Nat → Int32) (V V' : Nat → Int32) : Prop :=
  (∀ r c, c < w → (r < y ∨ (r = y ∧ c < x)) → V' (b + (8 * r + c)) = p r c) ∧ (∀ j, (j < b ∨ b + 64 ≤ j) → V' j = V j)
theorem im_grid0 (b w : Nat) (p : Nat → Nat → Int32) (V : Nat → Int32) : im_Grid b w 0 0 p V V :=
  ⟨fun r c _ h => by omega, fun _ _ => rfl⟩
theorem im_grid1 {b w y x : Nat} {p : Nat → Nat → Int32} {V V' : Nat → Int32} (F : im_Grid b w y x p V V') (hw : w ≤ 8) (hy : y < 8) (hx : x < w) {c : Int32} (hc : c = p y x) {j : Nat} (hj : j = b + (8 * y + x)) :
    im_Grid b w y (x + 1) p V (upd V' j c) := by
  subst hj
  refine ⟨fun r q hq h => ?_, fun j hj => ?_⟩
  · by_cases e : r = y ∧ q = x
    · rw [e.1, e.2, pk_us, hc]
    · rw [pk_un (by omega)]; exact F.1 r q hq (by omega)
  · rw [pk_un (by omega)]; exact F.2 j hj
theorem im_gridR {b w y : Nat} {p : Nat → Nat → Int32} {V V' : Nat → Int32} (F : im_Grid b w y w p V V') : im_Grid b w (y + 1) 0 p V V' :=
  ⟨fun r c hc h => F.1 r c hc (by omega), F.2⟩
/-! one slot of each side: w columns, h rows, the value p y x at (x, y) -/
def im_Bd (w h : Nat) : Prop := 0 < w ∧ w ≤ 8 ∧ 0 < h ∧ h ≤ 8
def im_XP (s w h : Nat) (p : Nat → Nat → Int32) (W H V : Nat → Int32) : Prop :=
  W s = nI w ∧ H s = nI h ∧ ∀ y x, y < h → x < w → V (64 * s + (y * w + x)) = p y x
def im_YP (s w h : Nat) (p : Nat → Nat → Int32) (V W H T : Nat → Int32) : Prop :=
  T s = 1 ∧ W s = nI w ∧ H s = nI h ∧ ∀ y x, y < h → x < w → V (64 * s + (8 * y + x)) = p y x
def im_Sl (s : Nat) (W H V V' W' H' T' : Nat → Int32) : Prop :=
  (W s = 0 ∧ H s = 0 ∧ T' s = 0) ∨ ∃ w h p, im_Bd w h ∧ im_XP s w h p W H V ∧ im_YP s w h p V' W' H' T'
def im_All (W H V V' W' H' T' : Nat → Int32) : Prop := ∀ s, s < 8 → im_Sl s W H V V' W' H' T'
def im_FD (F D D' F' : Nat → Int32) : Prop := ∀ f, f < 4 → F f = F' (4 + f) ∧ D f = D' (4 + f) ∧ (D f = 0 ∨ D f = 1)
/-! what lies outside of slot s stays -/
def im_XF (s : Nat) (W H V W2 H2 V2 : Nat → Int32) : Prop :=
  (∀ t, t ≠ s → W2 t = W t ∧ H2 t = H t) ∧ ∀ j, (j < 64 * s ∨ 64 * s + 64 ≤ j) → V2 j = V j
def im_YF (s : Nat) (V W H T V2 W2 H2 T2 : Nat → Int32) : Prop :=
  (∀ t, t ≠ s → t < 8 → W2 t = W t ∧ H2 t = H t ∧ T2 t = T t) ∧ ∀ j, (j < 64 * s ∨ 64 * s + 64 ≤ j) → j < 512 → V2 j = V j
theorem im_put {s w h : Nat} {p : Nat → Nat → Int32} {W H V V' W' H' T' W2 H2 V2 V3 W3 H3 T3 : Nat → Int32} (A : im_All W H V V' W' H' T') (b : im_Bd w h)
    (x : im_XP s w h p W2 H2 V2) (xf : im_XF s W H V W2 H2 V2) (y : im_YP s w h p V3 W3 H3 T3) (yf : im_YF s V' W' H' T' V3 W3 H3 T3) : im_All W2 H2 V2 V3 W3 H3 T3 := by
  intro t ht
  by_cases e : t = s
  · subst e
    exact Or.inr ⟨w, h, p, b, x, y⟩
  · obtain ⟨a1, a2⟩ := xf.1 t e
    obtain ⟨b1, b2, b3⟩ := yf.1 t e ht
    rcases A t ht with ⟨c1, c2, c3⟩ | ⟨w0, h0, p0, bd, ⟨x1, x2, x3⟩, ⟨y1, y2, y3, y4⟩⟩
    · exact Or.inl ⟨a1.trans c1, a2.trans c2, b3.trans c3⟩
    · have k1 := bd.2.1
      have k2 := bd.2.2.2
      refine Or.inr ⟨w0, h0, p0, bd, ⟨a1.trans x1, a2.trans x2, fun y x hy hx => ?_⟩, ⟨b3.trans y1, b1.trans y2, b2.trans y3, fun y x hy hx => ?_⟩⟩
      · have i1 := im_ix hy hx
        have i2 := im_64b k1 k2
        rw [xf.2 _ (by omega)]
        exact x3 y x hy hx
      · rw [yf.2 _ (by omega) (by omega)]
        exact y4 y x hy hx
/-- a filled slot of X -/
theorem im_xpF {s w h n : Nat} {p : Nat → Nat → Int32} {g V V' : Nat → Int32} (F : im_Fill (64 * s) n g V V') (hn : h * w ≤ n) (e : ∀ y x, y < h → x < w → g (y * w + x) = p y x) :
    ∀ y x, y < h → x < w → V' (64 * s + (y * w + x)) = p y x := fun y x hy hx =>
  (F.1 _ (Nat.lt_of_lt_of_le (im_ix hy hx) hn)).trans (e y x hy hx)
/-- a filled grid of Y -/
theorem im_ypG {s w h : Nat} {p : Nat → Nat → Int32} {V V' : Nat → Int32} (F : im_Grid (64 * s) w h 0 p V V') :
    ∀ y x, y < h → x < w → V' (64 * s + (8 * y + x)) = p y x := fun y x hy hx => F.1 y x hx (Or.inl hy)
/-- quarter turns of a picture -/
def im_rot (t : Nat × Nat × (Nat → Nat → Int32)) : Nat × Nat × (Nat → Nat → Int32) :=
  (t.2.1, t.1, fun y x => t.2.2 (t.2.1 - 1 - x) y)
def im_rots (t : Nat × Nat × (Nat → Nat → Int32)) : Nat → Nat × Nat × (Nat → Nat → Int32)
  | 0 => t
  | q + 1 => im_rot (im_rots t q)
theorem im_rotB {t : Nat × Nat × (Nat → Nat → Int32)} (b : im_Bd t.1 t.2.1) : ∀ q, im_Bd (im_rots t q).1 (im_rots t q).2.1
  | 0 => b
  | q + 1 => have c := im_rotB b q
    ⟨c.2.2.1, c.2.2.2, c.1, c.2.1⟩
end
section
/-! pure rows: stores of one value, paint, mirrored rows, copies of slots, quarter turns -/
theorem im_us {f : Nat → Int32} {k j : Nat} : upd f k (f j) j = f j := by
  unfold upd
  split <;> rfl
/-- one value set, X's side -/
theorem im_setX {s w h a b : Nat} {p : Nat → Nat → Int32} {W H V : Nat → Int32} {c : Int32} (bd : im_Bd w h) (ha : a < w) (hb : b < h) (P : im_XP s w h p W H V) :
    im_XP s w h (fun y x => if y = b ∧ x = a then c else p y x) W H (upd V (64 * s + (b * w + a)) c) ∧ im_XF s W H V W H (upd V (64 * s + (b * w + a)) c) := by
  have i0 := im_ix hb ha
  have i2 := im_64b bd.2.1 bd.2.2.2
  refine ⟨⟨P.1, P.2.1, fun y x hy hx => ?_⟩, fun _ _ => ⟨rfl, rfl⟩, fun j hj => pk_un (by omega)⟩
  dsimp only
  by_cases e : y = b ∧ x = a
  · rw [if_pos e, e.1, e.2, pk_us]
  · rw [if_neg e, pk_un]
    · exact P.2.2 y x hy hx
    · intro z
      exact e (im_inj hx ha (by omega))
/-- one value set, Y's side -/
theorem im_setY {s w h a b : Nat} {p : Nat → Nat → Int32} {V W H T : Nat → Int32} {c : Int32} (bd : im_Bd w h) (ha : a < w) (hb : b < h) (P : im_YP s w h p V W H T) :
    im_YP s w h (fun y x => if y = b ∧ x = a then c else p y x) (upd V (64 * s + (8 * b + a)) c) W H T ∧ im_YF s V W H T (upd V (64 * s + (8 * b + a)) c) W H T := by
  have i1 := bd.2.1
  have i2 := bd.2.2.2
  refine ⟨⟨P.1, P.2.1, P.2.2.1, fun y x hy hx => ?_⟩, fun _ _ _ => ⟨rfl, rfl, rfl⟩, fun j hj _ => pk_un (by omega)⟩
  dsimp only
  by_cases e : y = b ∧ x = a
  · rw [if_pos e, e.1, e.2, pk_us]
  · rw [if_neg e, pk_un (by omega)]
    exact P.2.2.2 y x hy hx
/-! paint: from place f on, n places get q 0, q 1 .. -/
def im_pnt (w f n : Nat) (q : Nat → Int32) (p : Nat → Nat → Int32) (y x : Nat) : Int32 :=
  if f ≤ y * w + x ∧ y * w + x < f + n then q (y * w + x - f) else p y x
def im_PG (b w h f i : Nat) (q : Nat → Int32) (p : Nat → Nat → Int32) (V V' : Nat → Int32) : Prop :=
  (∀ r c, r < h → c < w → V' (b + (8 * r + c)) = im_pnt w f i q p r c) ∧ (∀ j, (j < b ∨ b + 64 ≤ j) → V' j = V j)
theorem im_pg0 {b w h f : Nat} {q : Nat → Int32} {p : Nat → Nat → Int32} {V : Nat → Int32} (P : ∀ r c, r < h → c < w → V (b + (8 * r + c)) = p r c) : im_PG b w h f 0 q p V V := by
  refine ⟨fun r c hr hc => ?_, fun _ _ => rfl⟩
  unfold im_pnt
  rw [if_neg (by omega)]
  exact P r c hr hc
theorem im_pg1 {b w h f i : Nat} {q : Nat → Int32} {p : Nat → Nat → Int32} {V V' : Nat → Int32} (bd : im_Bd w h) (F : im_PG b w h f i q p V V') (hi : f + i < h * w) {c : Int32} (hc : c = q i) {j : Nat} (hj : j = b + (8 * ((f + i) / w) + (f + i) % w)) :
    im_PG b w h f (i + 1) q p V (upd V' j c) := by
  obtain ⟨w0, w8, h0, h8⟩ := bd
  have ek : (f + i) / w * w + (f + i) % w = f + i := Nat.div_add_mod' (f + i) w
  have c0 : (f + i) % w < w := Nat.mod_lt _ w0
  have r0 : (f + i) / w < h := Nat.div_lt_of_lt_mul (by rw [Nat.mul_comm]; exact hi)
  revert ek c0 r0 hj
  generalize (f + i) / w = a
  generalize (f + i) % w = d
  intro hj ek c0 r0
  subst hj
  refine ⟨fun r x hr hx => ?_, fun j hj => ?_⟩
  · by_cases e : r = a ∧ x = d
    · rw [e.1, e.2, pk_us]
      unfold im_pnt
      rw [ek, if_pos (by omega), show f + i - f = i by omega]
      exact hc
    · have ne : r * w + x ≠ f + i := fun z => e (im_inj hx c0 (z.trans ek.symm))
      rw [pk_un (by omega), F.1 r x hr hx]
      unfold im_pnt
      by_cases z : f ≤ r * w + x ∧ r * w + x < f + i
      · rw [if_pos z, if_pos (by omega)]
      · rw [if_neg z, if_neg (by omega)]
  · rw [pk_un (by omega)]
    exact F.2 j hj
theorem im_pntX {s w h f n : Nat} {q : Nat → Int32} {p : Nat → Nat → Int32} {W H V V' : Nat → Int32} (bd : im_Bd w h) (P : im_XP s w h p W H V) (hn : f + n ≤ h * w) (F : im_Fill (64 * s + f) n q V V') :
    im_XP s w h (im_pnt w f n q p) W H V' ∧ im_XF s W H V W H V' := by
  have i2 := im_64b bd.2.1 bd.2.2.2
  refine ⟨⟨P.1, P.2.1, fun y x hy hx => ?_⟩, fun _ _ => ⟨rfl, rfl⟩, fun j hj => F.2 j (by omega)⟩
  unfold im_pnt
  by_cases z : f ≤ y * w + x ∧ y * w + x < f + n
  · have e := F.1 (y * w + x - f) (by omega)
    rw [show 64 * s + f + (y * w + x - f) = 64 * s + (y * w + x) by omega] at e
    rw [if_pos z, e]
  · rw [if_neg z, F.2 _ (by omega)]
    exact P.2.2 y x hy hx
theorem im_pntY {s w h f n : Nat} {q : Nat → Int32} {p : Nat → Nat → Int32} {V V' W H T : Nat → Int32} (P : im_YP s w h p V W H T) (F : im_PG (64 * s) w h f n q p V V') :
    im_YP s w h (im_pnt w f n q p) V' W H T ∧ im_YF s V W H T V' W H T :=
  ⟨⟨P.1, P.2.1, P.2.2.1, F.1⟩, fun _ _ _ => ⟨rfl, rfl, rfl⟩, fun j hj _ => F.2 j hj⟩
/-! a row of w places from st on, mirrored by x swaps -/
def im_MR (st w x : Nat) (V V' : Nat → Int32) : Prop :=
  (∀ j, j < w → V' (st + j) = if j < x ∨ w - 1 - j < x then V (st + (w - 1 - j)) else V (st + j)) ∧ (∀ j, (j < st ∨ st + w ≤ j) → V' j = V j)
theorem im_mr0 (st w : Nat) (V : Nat → Int32) : im_MR st w 0 V V :=
  ⟨fun j _ => by rw [if_neg (by omega)], fun _ _ => rfl⟩
theorem im_mr1 {st w x : Nat} {V V' : Nat → Int32} (F : im_MR st w x V V') (hx : x < w / 2) {a b : Nat} (ha : a = st + x) (hb : b = st + (w - 1 - x)) :
    im_MR st w (x + 1) V (upd (upd V' a (V' b)) b (V' a)) := by
  subst ha hb
  have e1 : V' (st + x) = V (st + x) := by
    rw [F.1 x (by omega), if_neg (by omega)]
  have e2 : V' (st + (w - 1 - x)) = V (st + (w - 1 - x)) := by
    rw [F.1 (w - 1 - x) (by omega), if_neg (by omega)]
  rw [e1, e2]
  refine ⟨fun j hj => ?_, fun j hj => ?_⟩
  · by_cases z : j = w - 1 - x
    · rw [z, pk_us, if_pos (by omega), show w - 1 - (w - 1 - x) = x by omega]
    · rw [pk_un (by omega)]
      by_cases y : j = x
      · rw [y, pk_us, if_pos (by omega)]
      · rw [pk_un (by omega), F.1 j hj]
        by_cases c : j < x ∨ w - 1 - j < x
        · rw [if_pos c, if_pos (by omega)]
        · rw [if_neg c, if_neg (by omega)]
  · rw [pk_un (by omega), pk_un (by omega)]
    exact F.2 j hj
theorem im_mrE {st w : Nat} {V V' : Nat → Int32} (F : im_MR st w (w / 2) V V') : im_Fill st w (fun j => V (st + (w - 1 - j))) V V' := by
  refine ⟨fun j hj => ?_, F.2⟩
  show V' (st + j) = V (st + (w - 1 - j))
  rw [F.1 j hj]
  by_cases c : j < w / 2 ∨ w - 1 - j < w / 2
  · rw [if_pos c]
  · rw [if_neg c, show w - 1 - j = j by omega]
/-! copies of slots -/
theorem im_copyX {t s w h n : Nat} {p : Nat → Nat → Int32} {W H V V' : Nat → Int32} (bd : im_Bd w h) (P : im_XP s w h p W H V) (hn : n = h * w) (F : im_Fill (64 * t) n (fun k => V (64 * s + k)) V V') :
    im_XP t w h p (upd W t (W s)) (upd H t (H s)) V' ∧ im_XF t W H V (upd W t (W s)) (upd H t (H s)) V' := by
  have i2 := im_64b bd.2.1 bd.2.2.2
  refine ⟨⟨pk_us.trans P.1, pk_us.trans P.2.1, im_xpF F (by omega) P.2.2⟩, fun j hj => ⟨pk_un hj, pk_un hj⟩, fun j hj => F.2 j (by omega)⟩
theorem im_copyY {t s w h : Nat} {p : Nat → Nat → Int32} {V W H T V' : Nat → Int32} (bd : im_Bd w h) (P : im_YP s w h p V W H T) (F : im_Fill (64 * t) 64 (fun k => V (64 * s + k)) V V') :
    im_YP t w h p V' (upd W t (W s)) (upd H t (H s)) (upd T t 1) ∧ im_YF t V W H T V' (upd W t (W s)) (upd H t (H s)) (upd T t 1) := by
  have i1 := bd.2.1
  have i2 := bd.2.2.2
  refine ⟨⟨pk_us, pk_us.trans P.2.1, pk_us.trans P.2.2.1, fun y x hy hx => ?_⟩, fun j hj _ => ⟨pk_un hj, pk_un hj, pk_un hj⟩, fun j hj _ => F.2 j hj⟩
  exact (F.1 (8 * y + x) (by omega)).trans (P.2.2.2 y x hy hx)
end
section
/-! X's own methods without loops, each with a general post -/
theorem im_e64 (s : Nat) : nI s * 64 = nI (64 * s) := by rw [im_64, pk_mul, Nat.mul_comm]
theorem im_e64' (s : Nat) : 64 * nI s = nI (64 * s) := by rw [im_64, pk_mul]
theorem im_e8 (s : Nat) : 8 * nI s = nI (8 * s) := by rw [im_8, pk_mul]
theorem im_e4 (f : Nat) : 4 + nI f = nI (4 + f) := by rw [im_4, nI_add]
theorem im_x1 (s b w a : Nat) : nI s * 64 + nI b * nI w + nI a = nI (64 * s + (b * w + a)) := by
  rw [im_e64, pk_mul, nI_add, nI_add, Nat.add_assoc]
theorem im_10 : ¬ (1 : Int32) = 0 := by decide
section
variable {W H V F D U : Nat → Int32}
theorem im_xUn {post : Int32 → Prop} {p : Int32} (h : p < 0 ∨ nI 4 ≤ p) (hp : post 1) : wpX_isUnknown post p :=
  br_c (fun _ => hp) (fun h0 => br_f (fun h4 => Int32.not_lt.mpr (h.resolve_left h0) h4) hp)
theorem im_xUk {post : Int32 → Prop} {s : Nat} (hs : s < 4) (hp : post 0) : wpX_isUnknown post (nI s) :=
  br_f (nI_pos (by omega)) (br_t (nI_lt (b := 4) hs (by decide)) hp)
theorem im_xSn {post : Int32 → Prop} {p q : Int32} (h : p < 1 ∨ ¬ p ≤ q) (hp : post 1) : wpX_isNoSide post p q :=
  br_c (fun _ => hp) (fun h0 => br_f (h.resolve_left h0) hp)
theorem im_xSk {post : Int32 → Prop} {p q : Int32} (h : ¬ p < 1) (h' : p ≤ q) (hp : post 0) : wpX_isNoSide post p q :=
  br_f h (br_t h' hp)
theorem im_xAbT {post : Int32 → Prop} {s : Nat} (hs : s < 8) (e : W s = 0) (hp : post 1) : wpX_isAbsent post (W, H, V, F, D, U) (nI s) :=
  ⟨vp_in_nI hs (by decide), br_t (by rw [nI_clamp (by omega)]; exact e) hp⟩
theorem im_xAbF {post : Int32 → Prop} {s : Nat} (hs : s < 8) (e : ¬ W s = 0) (hp : post 0) : wpX_isAbsent post (W, H, V, F, D, U) (nI s) :=
  ⟨vp_in_nI hs (by decide), br_f (by rw [nI_clamp (by omega)]; exact e) hp⟩
theorem im_xIfU {post : Int32 → Prop} {p : Int32} (h : p < 0 ∨ nI 4 ≤ p) (hp : post (-1)) : wpX_imageFault post (W, H, V, F, D, U) p := by
  unfold wpX_imageFault; dsimp only
  exact im_xUn h (br_f im_10 hp)
theorem im_xIfN {post : Int32 → Prop} {s : Nat} (hs : s < 4) (e : W s = 0) (hp : post (-2)) : wpX_imageFault post (W, H, V, F, D, U) (nI s) := by
  unfold wpX_imageFault; dsimp only
  exact im_xUk hs (br_t rfl (im_xAbT (by omega) e (br_f im_10 hp)))
theorem im_xIfP {post : Int32 → Prop} {s w : Nat} (hs : s < 4) (e : W s = nI w) (h0 : 0 < w) (h8 : w ≤ 8) (hp : post 0) : wpX_imageFault post (W, H, V, F, D, U) (nI s) := by
  unfold wpX_imageFault; dsimp only
  exact im_xUk hs (br_t rfl (im_xAbF (by omega) (by rw [e]; exact nI_ne0 h0 (by omega)) (br_t rfl hp)))
theorem im_xNpT {post : Int32 → Prop} {s w h : Nat} {p1 p2 : Int32} (hs : s < 8) (e : W s = nI w) (e' : H s = nI h) (o : p1 < 0 ∨ nI w ≤ p1 ∨ p2 < 0 ∨ nI h ≤ p2) (hp : post 1) : wpX_isNoPlace post (W, H, V, F, D, U) (nI s) p1 p2 := by
  unfold wpX_isNoPlace; dsimp only
  rw [nI_clamp (n := s) (by omega), e, e']
  refine br_c (fun _ => hp) (fun h1 => ⟨vp_in_nI hs (by decide), br_c (fun _ => hp) (fun h2 => br_c (fun _ => hp) (fun h3 => ⟨vp_in_nI hs (by decide), br_f (fun h4 => ?_) hp⟩))⟩)
  rcases o with o | o | o | o
  · exact h1 o
  · exact h2 o
  · exact h3 o
  · exact Int32.not_lt.mpr o h4
theorem im_xNpF {post : Int32 → Prop} {s w h a b : Nat} (hs : s < 8) (e : W s = nI w) (e' : H s = nI h) (w8 : w ≤ 8) (h8 : h ≤ 8) (ha : a < w) (hb : b < h) (hp : post 0) : wpX_isNoPlace post (W, H, V, F, D, U) (nI s) (nI a) (nI b) := by
  unfold wpX_isNoPlace; dsimp only
  rw [nI_clamp (n := s) (by omega), e, e']
  exact br_f (nI_pos (by omega)) ⟨vp_in_nI hs (by decide), br_f (nI_ge ha (by omega)) (br_f (nI_pos (by omega)) ⟨vp_in_nI hs (by decide), br_t (nI_lt hb (by omega)) hp⟩)⟩
theorem im_xIx {post : Int32 → Prop} {s w a b : Nat} (hs : s < 8) (e : W s = nI w) (hp : post (nI (64 * s + (b * w + a)))) : wpX_indexOf post (W, H, V, F, D, U) (nI s) (nI a) (nI b) := by
  unfold wpX_indexOf; dsimp only
  rw [nI_clamp (n := s) (by omega), e, im_x1]
  exact ⟨vp_in_nI hs (by decide), hp⟩
theorem im_xPl {post : Int32 → Prop} {s w h : Nat} (hs : s < 8) (e : W s = nI w) (e' : H s = nI h) (hp : post (nI (h * w))) : wpX_placesOf post (W, H, V, F, D, U) (nI s) := by
  unfold wpX_placesOf; dsimp only
  rw [nI_clamp (n := s) (by omega), e, e', pk_mul, Nat.mul_comm]
  exact ⟨vp_in_nI hs (by decide), vp_in_nI hs (by decide), hp⟩
theorem im_xFfU {post : Int32 → Prop} {p : Int32} (h : p < 0 ∨ nI 4 ≤ p) (hp : post (-1)) : wpX_fileFault post (W, H, V, F, D, U) p := by
  unfold wpX_fileFault; dsimp only
  exact im_xUn h (br_f im_10 hp)
theorem im_xFfN {post : Int32 → Prop} {f : Nat} (hf : f < 4) (e : W (4 + f) = 0) (hp : post (-2)) : wpX_fileFault post (W, H, V, F, D, U) (nI f) := by
  unfold wpX_fileFault; dsimp only
  rw [im_e4]
  exact im_xUk hf (br_t rfl (im_xAbT (by omega) e (br_f im_10 hp)))
theorem im_xFfB {post : Int32 → Prop} {f w : Nat} (hf : f < 4) (e : W (4 + f) = nI w) (h0 : 0 < w) (h8 : w ≤ 8) (d : ¬ D f = 0) (hp : post (-3)) : wpX_fileFault post (W, H, V, F, D, U) (nI f) := by
  unfold wpX_fileFault; dsimp only
  rw [im_e4, nI_clamp (n := f) (by omega)]
  exact im_xUk hf (br_t rfl (im_xAbF (by omega) (by rw [e]; exact nI_ne0 h0 (by omega)) (br_t rfl ⟨vp_in_nI hf (by decide), br_f d hp⟩)))
theorem im_xFfP {post : Int32 → Prop} {f w : Nat} (hf : f < 4) (e : W (4 + f) = nI w) (h0 : 0 < w) (h8 : w ≤ 8) (d : D f = 0) (hp : post 0) : wpX_fileFault post (W, H, V, F, D, U) (nI f) := by
  unfold wpX_fileFault; dsimp only
  rw [im_e4, nI_clamp (n := f) (by omega)]
  exact im_xUk hf (br_t rfl (im_xAbF (by omega) (by rw [e]; exact nI_ne0 h0 (by omega)) (br_t rfl ⟨vp_in_nI hf (by decide), br_t d hp⟩)))
end
end
section
/-! Y's own methods without loops, and become -/
theorem im_nle3 {p : Int32} (h : nI 4 ≤ p) : ¬ p ≤ 3 := fun h3 => absurd (Int32.le_trans h h3) (by decide)
theorem im_y1 (s b a : Nat) : 64 * nI s + 8 * nI b + nI a = nI (64 * s + (8 * b + a)) := by
  rw [im_e64', im_e8, nI_add, nI_add, Nat.add_assoc]
section
variable {V W H T D F : Nat → Int32}
theorem im_yUn {post : Int32 → Prop} {p : Int32} (h : p < 0 ∨ nI 4 ≤ p) (hp : post 1) : wpY_out post p :=
  br_c (fun _ => hp) (fun h0 => br_f (im_nle3 (h.resolve_left h0)) hp)
theorem im_yUk {post : Int32 → Prop} {s : Nat} (hs : s < 4) (hp : post 0) : wpY_out post (nI s) :=
  br_f (nI_pos (by omega)) (br_t (nI_le (b := 3) (by omega) (by decide)) hp)
theorem im_yPl {post : Int32 → Prop} {s w h : Nat} (hs : s < 9) (e : W s = nI w) (e' : H s = nI h) (hp : post (nI (h * w))) : wpY_places post (V, W, H, T, D, F) (nI s) := by
  unfold wpY_places; dsimp only
  rw [nI_clamp (n := s) (by omega), e, e', pk_mul, Nat.mul_comm]
  exact ⟨vp_in_nI hs (by decide), vp_in_nI hs (by decide), hp⟩
theorem im_yInF {post : Int32 → Prop} {s w h : Nat} {p1 p2 : Int32} (hs : s < 9) (e : W s = nI w) (e' : H s = nI h) (o : p1 < 0 ∨ nI w ≤ p1 ∨ p2 < 0 ∨ nI h ≤ p2) (hp : post 0) : wpY_inside post (V, W, H, T, D, F) (nI s) p1 p2 := by
  unfold wpY_inside; dsimp only
  rw [nI_clamp (n := s) (by omega), e, e']
  refine br_c (fun _ => hp) (fun h1 => ⟨vp_in_nI hs (by decide), br_c (fun _ => hp) (fun h2 => br_c (fun _ => hp) (fun h3 => ⟨vp_in_nI hs (by decide), br_t ?_ hp⟩))⟩)
  rcases o with o | o | o | o
  · exact absurd o h1
  · exact absurd o h2
  · exact absurd o h3
  · exact o
theorem im_yInT {post : Int32 → Prop} {s w h a b : Nat} (hs : s < 9) (e : W s = nI w) (e' : H s = nI h) (w8 : w ≤ 8) (h8 : h ≤ 8) (ha : a < w) (hb : b < h) (hp : post 1) : wpY_inside post (V, W, H, T, D, F) (nI s) (nI a) (nI b) := by
  unfold wpY_inside; dsimp only
  rw [nI_clamp (n := s) (by omega), e, e']
  exact br_f (nI_pos (by omega)) ⟨vp_in_nI hs (by decide), br_f (nI_ge ha (by omega)) (br_f (nI_pos (by omega)) ⟨vp_in_nI hs (by decide), br_f (nI_ge hb (by omega)) hp⟩)⟩
theorem im_yCkN {post : Int32 → Prop} {f : Nat} (hf : f < 4) (e : T (4 + f) = 0) (hp : post (-2)) : wpY_check post (V, W, H, T, D, F) (nI f) := by
  unfold wpY_check; dsimp only
  rw [im_e4, nI_clamp (n := 4 + f) (by omega)]
  exact ⟨vp_in_nI (by omega) (by decide), br_t e hp⟩
theorem im_yCkB {post : Int32 → Prop} {f : Nat} (hf : f < 4) (e : T (4 + f) = 1) (d : ¬ D (4 + f) = 0) (hp : post (-3)) : wpY_check post (V, W, H, T, D, F) (nI f) := by
  unfold wpY_check; dsimp only
  rw [im_e4, nI_clamp (n := 4 + f) (by omega), e]
  exact ⟨vp_in_nI (by omega) (by decide), br_f im_10 ⟨vp_in_nI (by omega) (by decide), br_f d hp⟩⟩
theorem im_yCkP {post : Int32 → Prop} {f : Nat} (hf : f < 4) (e : T (4 + f) = 1) (d : D (4 + f) = 0) (hp : post 0) : wpY_check post (V, W, H, T, D, F) (nI f) := by
  unfold wpY_check; dsimp only
  rw [im_e4, nI_clamp (n := 4 + f) (by omega), e]
  exact ⟨vp_in_nI (by omega) (by decide), br_f im_10 ⟨vp_in_nI (by omega) (by decide), br_t d hp⟩⟩
/-- become: the 64 values of slot s into slot t, and what else slot s has -/
theorem im_yBc {post : SY → Prop} {s t : Nat} (hs : s < 9) (ht : t < 9)
    (hp : ∀ V2, im_Fill (64 * t) 64 (fun k => V (64 * s + k)) V V2 → post (V2, upd W t (W s), upd H t (H s), upd T t 1, upd D t (vp_nar .boolean (D s)), upd F t (F s))) :
    wpY_become post (V, W, H, T, D, F) (nI t) (nI s) := by
  have cs : (nI s).toNatClampNeg = s := nI_clamp (by omega)
  have is9 : vp_in (nI s) 9 := vp_in_nI hs (by decide)
  refine loop_0 (fun n i V2 => wY_become_2 post (nI t) (nI s) n (nI i) V2 W H T D F) (fun i V2 => im_Fill (64 * t) i (fun k => V (64 * s + k)) V V2) 64 V (im_fill0 _ _ _) (fun n V2 f => ?_) (fun n i V2 hi f k => ?_)
  · refine br_t (Int32.le_refl _) ⟨is9, im_st t rfl ht (by decide) ⟨is9, im_st t rfl ht (by decide) (im_st t rfl ht (by decide) ⟨is9, im_st t rfl ht (by decide) ⟨is9, im_st t rfl ht (by decide) ?_⟩⟩)⟩⟩
    rw [cs, im_vb1]
    exact hp V2 f
  · refine br_f (nI_ge (b := 64) hi (by decide)) ⟨pk_in (64 * s + i) 576 (by omega) (by rw [im_e64', nI_add]), im_st (64 * t + i) (by rw [im_e64', nI_add]) (by omega) (by decide) (nm_r (nI_1 i) (k _ (im_fill1 f ?_ rfl)))⟩
    rw [im_e64', nI_add, nI_clamp (by omega)]
    exact f.2 _ (by omega)
end
end
section
/-! X's loops: create, level, paint, copySlot, writeFile -/
section
variable {W H V F D U : Nat → Int32}
theorem im_xCr {post : Int32 → SX → Prop} {s c : Nat} {q : Int32} (hs : s < 8) (hc : c ≤ 64)
    (hp : ∀ V2, im_Fill (64 * s) c (fun _ => q &&& 255) V V2 → post (nI c) (W, H, V2, F, D, U)) :
    ∃ n, wX_create_55 post q (nI (64 * s)) (nI c) n 0 W H V F D U :=
  loop_0 (fun n i V2 => wX_create_55 post q (nI (64 * s)) (nI c) n (nI i) W H V2 F D U) (fun i V2 => im_Fill (64 * s) i (fun _ => q &&& 255) V V2) c V (im_fill0 _ _ _)
    (fun n V2 f => br_t (Int32.le_refl _) (hp V2 f))
    (fun n i V2 hi f k => br_f (nI_ge hi (by omega)) (im_st (64 * s + i) (nI_add _ _) (by omega) (by decide) (nm_r (nI_1 i) (k _ (im_fill1 f rfl rfl)))))
theorem im_xLv {post : Int32 → SX → Prop} {s c : Nat} {a b : Int32} (hs : s < 8) (hc : c ≤ 64)
    (hp : ∀ V2, im_Fill (64 * s) c (fun k => (V (64 * s + k) * a + b) &&& 255) V V2 → post (nI c) (W, H, V2, F, D, U)) :
    ∃ n, wX_level_31 post a b (nI (64 * s)) (nI c) n 0 W H V F D U := by
  refine loop_0 (fun n i V2 => wX_level_31 post a b (nI (64 * s)) (nI c) n (nI i) W H V2 F D U) (fun i V2 => im_Fill (64 * s) i (fun k => (V (64 * s + k) * a + b) &&& 255) V V2) c V (im_fill0 _ _ _) (fun n V2 f => br_t (Int32.le_refl _) (hp V2 f)) (fun n i V2 hi f k => ?_)
  refine br_f (nI_ge hi (by omega)) ⟨pk_in (64 * s + i) 512 (by omega) (nI_add _ _), im_st (64 * s + i) (nI_add _ _) (by omega) (by decide) (nm_r (nI_1 i) (k _ (im_fill1 f ?_ rfl)))⟩
  rw [nI_add, nI_clamp (by omega), f.2 _ (Or.inr (Nat.le_refl _))]
theorem im_xPn {post : Int32 → SX → Prop} {st c : Nat} {q d : Int32} (hs : st + c ≤ 512)
    (hp : ∀ V2, im_Fill st c (fun j => (q + nI j * d) &&& 255) V V2 → post (nI c) (W, H, V2, F, D, U)) :
    ∃ n, wX_paint_65 post (nI c) q (nI st) d n 0 W H V F D U :=
  loop_0 (fun n i V2 => wX_paint_65 post (nI c) q (nI st) d n (nI i) W H V2 F D U) (fun i V2 => im_Fill st i (fun j => (q + nI j * d) &&& 255) V V2) c V (im_fill0 _ _ _)
    (fun n V2 f => br_t (Int32.le_refl _) (hp V2 f))
    (fun n i V2 hi f k => br_f (nI_ge hi (by omega)) (im_st (st + i) (nI_add _ _) (by omega) (by decide) (nm_r (nI_1 i) (k _ (im_fill1 f rfl rfl)))))
theorem im_xCs {post : SX → Prop} {s t w h : Nat} (hs : s < 8) (ht : t < 8) (bd : im_Bd w h) (e : W s = nI w) (e' : H s = nI h)
    (hp : ∀ V2, im_Fill (64 * t) (h * w) (fun k => V (64 * s + k)) V V2 → post (upd W t (W s), upd H t (H s), V2, F, D, U)) :
    wpX_copySlot post (W, H, V, F, D, U) (nI s) (nI t) := by
  have c64 := im_64b bd.2.1 bd.2.2.2
  unfold wpX_copySlot; dsimp only
  rw [nI_clamp (n := s) (by omega)]
  refine ⟨vp_in_nI hs (by decide), im_st t rfl ht (by decide) ⟨vp_in_nI hs (by decide), im_st t rfl ht (by decide) (nm_r (im_e64 s) (nm_r (im_e64 t) (im_xPl hs (im_us.trans e) (im_us.trans e') ?_)))⟩⟩
  generalize h * w = c at c64 hp
  refine loop_0 (fun n i V2 => wX_copySlot_45 post (nI (64 * s)) (nI (64 * t)) (nI c) n (nI i) (upd W t (W s)) (upd H t (H s)) V2 F D U) (fun i V2 => im_Fill (64 * t) i (fun k => V (64 * s + k)) V V2) c V (im_fill0 _ _ _) (fun n V2 f => br_t (Int32.le_refl _) (hp V2 f)) (fun n i V2 hi f k => ?_)
  refine br_f (nI_ge hi (by omega)) ⟨pk_in (64 * s + i) 512 (by omega) (nI_add _ _), im_st (64 * t + i) (nI_add _ _) (by omega) (by decide) (nm_r (nI_1 i) (k _ (im_fill1 f ?_ rfl)))⟩
  rw [nI_add, nI_clamp (by omega)]
  exact f.2 _ (by omega)
theorem im_xWf {post : Int32 → SX → Prop} {s g w h : Nat} {q : Int32} (hs : s < 8) (hg : g < 4) (bd : im_Bd w h) (e : W s = nI w) (e' : H s = nI h)
    (hp : ∀ V2, im_Fill (64 * (4 + g)) (h * w) (fun k => V (64 * s + k)) V V2 → post (nI (h * w)) (upd W (4 + g) (W s), upd H (4 + g) (H s), V2, upd F g q, upd D g 0, U)) :
    wpX_writeFile post (W, H, V, F, D, U) (nI s) (nI g) q := by
  unfold wpX_writeFile; dsimp only
  rw [im_e4]
  refine im_xCs hs (by omega) bd e e' (fun V2 f => im_st g rfl hg (by decide) (im_st g rfl hg (by decide) (im_xPl hs (im_us.trans e) (im_us.trans e') ?_)))
  rw [im_vb0]
  exact hp V2 f
end
end
section
/-! X's turnOnce and turn, mirrorRow and mirror's loop, keepPart, same's loop -/
theorem im_xt1 {h x w y : Nat} (hx : x < h) : (nI h - 1 - nI x) * nI w + nI y = nI ((h - 1 - x) * w + y) := by
  rw [im_1, pk_sub (by omega), pk_sub (by omega), pk_mul, nI_add]
theorem im_xt2 (s y h x : Nat) : nI (64 * s) + nI y * nI h + nI x = nI (64 * s + (y * h + x)) := by
  rw [pk_mul, nI_add, nI_add, Nat.add_assoc]
theorem im_xfT {s : Nat} {W H V W1 H1 V1 W2 H2 V2 : Nat → Int32} (a : im_XF s W H V W1 H1 V1) (b : im_XF s W1 H1 V1 W2 H2 V2) : im_XF s W H V W2 H2 V2 :=
  ⟨fun t ht => ⟨(b.1 t ht).1.trans (a.1 t ht).1, (b.1 t ht).2.trans (a.1 t ht).2⟩, fun j hj => (b.2 j hj).trans (a.2 j hj)⟩
theorem im_xf0 {s : Nat} {W H V : Nat → Int32} : im_XF s W H V W H V := ⟨fun _ _ => ⟨rfl, rfl⟩, fun _ _ => rfl⟩
section
variable {W H V F D U : Nat → Int32}
theorem im_xT71 {post : SX → Prop} {J : Int32 → (Nat → Int32) → (Nat → Int32) → (Nat → Int32) → (Nat → Int32) → (Nat → Int32) → (Nat → Int32) → Prop} {s w h y : Nat} {V1 : Nat → Int32} (hs : s < 8) (bd : im_Bd w h) (hy : y < w)
    (f : im_Fill (64 * s) (y * h) (fun k => U ((h - 1 - k % h) * w + k / h)) V V1)
    (hJ : ∀ V2, im_Fill (64 * s) ((y + 1) * h) (fun k => U ((h - 1 - k % h) * w + k / h)) V V2 → J (nI (y + 1)) W H V2 F D U) :
    ∃ n, wX_turnOnce_71 post J (nI s) (nI (64 * s)) (nI w) (nI h) (nI y) n 0 W H V1 F D U := by
  obtain ⟨w0, w8, h0, h8⟩ := bd
  have c64 := im_64b w8 h8
  have d64 := im_64b h8 w8
  refine loop_0 (fun n x V2 => wX_turnOnce_71 post J (nI s) (nI (64 * s)) (nI w) (nI h) (nI y) n (nI x) W H V2 F D U) (fun x V2 => im_Fill (64 * s) (y * h + x) (fun k => U ((h - 1 - k % h) * w + k / h)) V V2) h V1 f (fun n V2 f2 => ?_) (fun n x V2 hx f2 k => ?_)
  · exact br_t (Int32.le_refl _) (nm_r (nI_1 y) (hJ V2 (by rw [Nat.add_mul, Nat.one_mul]; exact f2)))
  · have i1 : (h - 1 - x) * w + y < h * w := im_ix (by omega) hy
    have i2 : y * h + x < w * h := im_ix hy hx
    refine br_f (nI_ge hx (by omega)) ⟨pk_in ((h - 1 - x) * w + y) 64 (by omega) (im_xt1 hx), im_st (64 * s + (y * h + x)) (im_xt2 s y h x) (by omega) (by decide) (nm_r (nI_1 x) (k _ (im_fill1 f2 ?_ rfl)))⟩
    show _ = U ((h - 1 - (y * h + x) % h) * w + (y * h + x) / h)
    rw [im_xt1 hx, nI_clamp (by omega), im_md hx, im_dv hx]
theorem im_xT61 {post : SX → Prop} {s w h : Nat} (hs : s < 8) (bd : im_Bd w h)
    (hp : ∀ V2, im_Fill (64 * s) (w * h) (fun k => U ((h - 1 - k % h) * w + k / h)) V V2 → post (upd W s (nI h), upd H s (nI w), V2, F, D, U)) :
    ∃ n, wX_turnOnce_61 post (nI s) (nI (64 * s)) (nI w) (nI h) n 0 W H V F D U := by
  refine loop_0 (fun n y V2 => wX_turnOnce_61 post (nI s) (nI (64 * s)) (nI w) (nI h) n (nI y) W H V2 F D U) (fun y V2 => im_Fill (64 * s) (y * h) (fun k => U ((h - 1 - k % h) * w + k / h)) V V2) w V (by rw [Nat.zero_mul]; exact im_fill0 _ _ _) (fun n V2 f => ?_) (fun n y V2 hy f k => ?_)
  · exact br_t (Int32.le_refl _) (im_st s rfl hs (by decide) (im_st s rfl hs (by decide) (hp V2 f)))
  · have w8 := bd.2.1
    exact br_f (nI_ge hy (by omega)) (im_xT71 hs bd hy f (fun V3 f3 => k V3 f3))
theorem im_xT14 {post : SX → Prop} {s w h : Nat} (hs : s < 8) (bd : im_Bd w h) (e : W s = nI w) (e' : H s = nI h)
    (hp : ∀ U2 V2, (∀ k, k < h * w → U2 k = V (64 * s + k)) → im_Fill (64 * s) (w * h) (fun k => U2 ((h - 1 - k % h) * w + k / h)) V V2 → post (upd W s (nI h), upd H s (nI w), V2, F, D, U2)) :
    ∃ n, wX_turnOnce_14 post (nI s) (nI (64 * s)) (nI (h * w)) n 0 W H V F D U := by
  have c64 := im_64b bd.2.1 bd.2.2.2
  refine loop_0 (fun n i U2 => wX_turnOnce_14 post (nI s) (nI (64 * s)) (nI (h * w)) n (nI i) W H V F D U2) (fun i U2 => im_Fill 0 i (fun k => V (64 * s + k)) U U2) (h * w) U (im_fill0 _ _ _) (fun n U2 f => ?_) (fun n i U2 hi f k => ?_)
  · refine br_t (Int32.le_refl _) ⟨vp_in_nI hs (by decide), nm_r (by rw [nI_clamp (by omega), e]) ⟨vp_in_nI hs (by decide), nm_r (by rw [nI_clamp (by omega), e']) (im_xT61 hs bd (fun V2 g => hp U2 V2 (fun k hk => ?_) g))⟩⟩
    have q := f.1 k hk
    rw [Nat.zero_add] at q
    exact q
  · refine br_f (nI_ge hi (by omega)) ⟨pk_in (64 * s + i) 512 (by omega) (nI_add _ _), im_st i rfl (by omega) (by decide) (nm_r (nI_1 i) (k _ (im_fill1 f ?_ (Nat.zero_add i).symm)))⟩
    rw [nI_add, nI_clamp (by omega)]
theorem im_xTo {post : SX → Prop} {s w h : Nat} {p : Nat → Nat → Int32} (hs : s < 8) (bd : im_Bd w h) (P : im_XP s w h p W H V)
    (hp : ∀ W2 H2 V2 U2, im_XP s h w (fun y x => p (h - 1 - x) y) W2 H2 V2 → im_XF s W H V W2 H2 V2 → post (W2, H2, V2, F, D, U2)) :
    wpX_turnOnce post (W, H, V, F, D, U) (nI s) := by
  have c64 := im_64b bd.2.2.2 bd.2.1
  unfold wpX_turnOnce; dsimp only
  refine nm_r (im_e64 s) (im_xPl hs P.1 P.2.1 (im_xT14 hs bd P.1 P.2.1 (fun U2 V2 g f => hp _ _ V2 U2 ⟨pk_us, pk_us, im_xpF f (Nat.le_refl _) (fun y x hy hx => ?_)⟩ ⟨fun t ht => ⟨pk_un ht, pk_un ht⟩, fun j hj => f.2 j (by omega)⟩)))
  show U2 ((h - 1 - (y * h + x) % h) * w + (y * h + x) / h) = p (h - 1 - x) y
  rw [im_md hx, im_dv hx, g _ (im_ix (by omega) hy)]
  exact P.2.2 _ _ (by omega) hy
theorem im_xTu {post : Int32 → SX → Prop} {s w h m : Nat} {p : Nat → Nat → Int32} (hs : s < 8) (bd : im_Bd w h) (hm : m < 4) (P : im_XP s w h p W H V)
    (hp : ∀ W2 H2 V2 U2, im_XP s (im_rots (w, h, p) m).1 (im_rots (w, h, p) m).2.1 (im_rots (w, h, p) m).2.2 W2 H2 V2 → im_XF s W H V W2 H2 V2 → post (nI (im_rots (w, h, p) m).1) (W2, H2, V2, F, D, U2)) :
    ∃ n, wX_turn_20 post (nI s) (nI m) n 0 W H V F D U := by
  refine loop_0 (fun n i (z : (Nat → Int32) × (Nat → Int32) × (Nat → Int32) × (Nat → Int32)) => wX_turn_20 post (nI s) (nI m) n (nI i) z.1 z.2.1 z.2.2.1 F D z.2.2.2) (fun i z => im_XP s (im_rots (w, h, p) i).1 (im_rots (w, h, p) i).2.1 (im_rots (w, h, p) i).2.2 z.1 z.2.1 z.2.2.1 ∧ im_XF s W H V z.1 z.2.1 z.2.2.1) m (W, H, V, U) ⟨P, im_xf0⟩ (fun n z f => ?_) (fun n i z hi f k => ?_)
  · refine br_t (Int32.le_refl _) ⟨vp_in_nI hs (by decide), ?_⟩
    rw [nI_clamp (by omega), f.1.1]
    exact hp _ _ _ _ f.1 f.2
  · refine br_f (nI_ge hi (by omega)) (im_xTo hs (im_rotB (t := (w, h, p)) bd i) f.1 (fun W2 H2 V2 U2 a b => nm_r (nI_1 i) (k (W2, H2, V2, U2) ⟨a, im_xfT f.2 b⟩)))
end
end
section
/-! X's mirror, keepPart, same -/
section
variable {W H V F D U : Nat → Int32}
theorem im_mrI {st w x : Nat} (hx : x < w) : nI st + nI w - 1 - nI x = nI (st + (w - 1 - x)) := by
  rw [im_1, nI_add, pk_sub (by omega), pk_sub (by omega)]
  exact congrArg nI (by omega)
theorem im_xMr {post : SX → Prop} {st w : Nat} (h0 : 0 < w) (hst : st + w ≤ 512)
    (hp : ∀ V2, im_Fill st w (fun j => V (st + (w - 1 - j))) V V2 → post (W, H, V2, F, D, U)) :
    wpX_mirrorRow post (W, H, V, F, D, U) (nI st) (nI w) := by
  unfold wpX_mirrorRow; dsimp only
  refine ⟨by decide, nm_r (pk_div (d := 2) (by omega) (by decide) (by decide)) ?_⟩
  refine loop_0 (fun n x V2 => wX_mirrorRow_7 post (nI st) (nI w) (nI (w / 2)) n (nI x) W H V2 F D U) (fun x V2 => im_MR st w x V V2) (w / 2) V (im_mr0 _ _ _) (fun n V2 f => br_t (Int32.le_refl _) (hp V2 (im_mrE f))) (fun n x V2 hx f k => ?_)
  refine br_f (nI_ge hx (by omega)) (nm_r (nI_add st x) (nm_r (im_mrI (by omega)) ⟨vp_in_nI (by omega) (by decide), nm_r (congrArg V2 (nI_clamp (by omega))) ⟨vp_in_nI (by omega) (by decide), im_st (st + x) rfl (by omega) (by decide) (im_st (st + (w - 1 - x)) rfl (by omega) (by decide) (nm_r (nI_1 x) (k _ ?_)))⟩⟩))
  rw [nI_clamp (by omega)]
  exact im_mr1 f hx rfl rfl
theorem im_xMi {post : Int32 → SX → Prop} {s w h : Nat} {p : Nat → Nat → Int32} (hs : s < 8) (bd : im_Bd w h) (P : im_XP s w h p W H V)
    (hp : ∀ V2, im_XP s w h (fun y x => p y (w - 1 - x)) W H V2 → im_XF s W H V W H V2 → post (nI w) (W, H, V2, F, D, U)) :
    ∃ n, wX_mirror_30 post (nI s) (nI w) (nI h) n 0 W H V F D U := by
  obtain ⟨w0, w8, h0, h8⟩ := bd
  have c64 := im_64b w8 h8
  refine loop_0 (fun n y V2 => wX_mirror_30 post (nI s) (nI w) (nI h) n (nI y) W H V2 F D U) (fun y V2 => im_Fill (64 * s) (y * w) (fun k => V (64 * s + (k / w * w + (w - 1 - k % w)))) V V2) h V (by rw [Nat.zero_mul]; exact im_fill0 _ _ _) (fun n V2 f => ?_) (fun n y V2 hy f k => ?_)
  · refine br_t (Int32.le_refl _) (hp V2 ⟨P.1, P.2.1, im_xpF f (Nat.le_refl _) (fun y x hy hx => ?_)⟩ ⟨fun _ _ => ⟨rfl, rfl⟩, fun j hj => f.2 j (by omega)⟩)
    show V (64 * s + ((y * w + x) / w * w + (w - 1 - (y * w + x) % w))) = p y (w - 1 - x)
    rw [im_md hx, im_dv hx]
    exact P.2.2 _ _ hy (by omega)
  · have i1 : y * w + (w - 1) < h * w := im_ix hy (by omega)
    have ei : nI s * 64 + nI y * nI w = nI (64 * s + y * w) := by rw [im_e64, pk_mul, nI_add]
    refine br_f (nI_ge hy (by omega)) ?_
    rw [ei]
    refine im_xMr w0 (by omega) (fun V3 g => nm_r (nI_1 y) (k V3 ?_))
    rw [Nat.add_mul, Nat.one_mul]
    refine im_fillC f g (fun j hj => ?_)
    show V2 (64 * s + y * w + (w - 1 - j)) = V (64 * s + ((y * w + j) / w * w + (w - 1 - (y * w + j) % w)))
    rw [im_md hj, im_dv hj, f.2 _ (by omega), Nat.add_assoc]
theorem im_xK51 {post : SX → Prop} {J : Int32 → (Nat → Int32) → (Nat → Int32) → (Nat → Int32) → (Nat → Int32) → (Nat → Int32) → (Nat → Int32) → Prop} {s w h a b nw nh y : Nat} {V1 : Nat → Int32} (hs : s < 8) (bd : im_Bd w h) (ha : nw + a ≤ w) (hy : y + b < h)
    (f : im_Fill (64 * s) (y * nw) (fun k => V (64 * s + ((k / nw + b) * w + (k % nw + a)))) V V1)
    (hJ : ∀ V2, im_Fill (64 * s) ((y + 1) * nw) (fun k => V (64 * s + ((k / nw + b) * w + (k % nw + a)))) V V2 → J (nI (y + 1)) W H V2 F D U) :
    ∃ n, wX_keepPart_51 post J (nI s) (nI a) (nI b) (nI nw) (nI nh) (nI (64 * s)) (nI w) (nI y) (nI (64 * s + ((y + b) * w + a))) (nI (64 * s + y * nw)) n 0 W H V1 F D U := by
  obtain ⟨w0, w8, h0, h8⟩ := bd
  have c64 := im_64b w8 h8
  refine loop_0 (fun n x V2 => wX_keepPart_51 post J (nI s) (nI a) (nI b) (nI nw) (nI nh) (nI (64 * s)) (nI w) (nI y) (nI (64 * s + ((y + b) * w + a))) (nI (64 * s + y * nw)) n (nI x) W H V2 F D U) (fun x V2 => im_Fill (64 * s) (y * nw + x) (fun k => V (64 * s + ((k / nw + b) * w + (k % nw + a)))) V V2) nw V1 f (fun n V2 f2 => ?_) (fun n x V2 hx f2 k => ?_)
  · exact br_t (Int32.le_refl _) (nm_r (nI_1 y) (hJ V2 (by rw [Nat.add_mul, Nat.one_mul]; exact f2)))
  · have i1 : (y + b) * w + (x + a) < h * w := im_ix hy (by omega)
    have i2 : y * nw ≤ (y + b) * w := Nat.mul_le_mul (by omega) (by omega)
    refine br_f (nI_ge hx (by omega)) ⟨pk_in (64 * s + ((y + b) * w + a) + x) 512 (by omega) (nI_add _ _), im_st (64 * s + y * nw + x) (nI_add _ _) (by omega) (by decide) (nm_r (nI_1 x) (k _ (im_fill1 f2 ?_ (Nat.add_assoc _ _ _))))⟩
    show _ = V (64 * s + (((y * nw + x) / nw + b) * w + ((y * nw + x) % nw + a)))
    rw [nI_add, nI_clamp (by omega), im_md hx, im_dv hx, f2.2 _ (by omega)]
    exact congrArg V (by omega)
theorem im_xKp {post : SX → Prop} {s w h a b nw nh : Nat} {p : Nat → Nat → Int32} (hs : s < 8) (bd : im_Bd w h) (ha : nw + a ≤ w) (hb : nh + b ≤ h) (P : im_XP s w h p W H V)
    (hp : ∀ V2, im_XP s nw nh (fun y x => p (y + b) (x + a)) (upd W s (nI nw)) (upd H s (nI nh)) V2 → im_XF s W H V (upd W s (nI nw)) (upd H s (nI nh)) V2 → post (upd W s (nI nw), upd H s (nI nh), V2, F, D, U)) :
    wpX_keepPart post (W, H, V, F, D, U) (nI s) (nI a) (nI b) (nI nw) (nI nh) := by
  have c64 := im_64b bd.2.1 bd.2.2.2
  have d64 : nh * nw ≤ h * w := Nat.mul_le_mul (by omega) (by omega)
  have h8 := bd.2.2.2
  unfold wpX_keepPart; dsimp only
  rw [nI_clamp (n := s) (by omega), P.1]
  refine nm_r (im_e64 s) ⟨vp_in_nI hs (by decide), nm_e ?_⟩
  refine loop_0 (fun n y V2 => wX_keepPart_17 post (nI s) (nI a) (nI b) (nI nw) (nI nh) (nI (64 * s)) (nI w) n (nI y) W H V2 F D U) (fun y V2 => im_Fill (64 * s) (y * nw) (fun k => V (64 * s + ((k / nw + b) * w + (k % nw + a)))) V V2) nh V (by rw [Nat.zero_mul]; exact im_fill0 _ _ _) (fun n V2 f => ?_) (fun n y V2 hy f k => ?_)
  · refine br_t (Int32.le_refl _) (im_st s rfl hs (by decide) (im_st s rfl hs (by decide) (hp V2 ⟨pk_us, pk_us, im_xpF f (Nat.le_refl _) (fun y x hy hx => ?_)⟩ ⟨fun t ht => ⟨pk_un ht, pk_un ht⟩, fun j hj => f.2 j (by omega)⟩)))
    show V (64 * s + (((y * nw + x) / nw + b) * w + ((y * nw + x) % nw + a))) = p (y + b) (x + a)
    rw [im_md hx, im_dv hx]
    exact P.2.2 _ _ (by omega) (by omega)
  · refine br_f (nI_ge hy (by omega)) (nm_r (e' := nI (64 * s + ((y + b) * w + a))) ?_ (nm_r (e' := nI (64 * s + y * nw)) ?_ (im_xK51 hs bd ha (by omega) f (fun V3 f3 => k V3 f3))))
    · rw [nI_add, pk_mul, nI_add, nI_add, Nat.add_comm b y, Nat.add_assoc]
    · rw [pk_mul, nI_add]
theorem im_xSm {post : Int32 → Prop} {a b c : Nat} {r : Int32} (ha : a < 8) (hb : b < 8) (hc : c ≤ 64)
    (hr : (r = 1 ∧ ∀ k, k < c → V (64 * a + k) = V (64 * b + k)) ∨ (r = 0 ∧ ∃ k, k < c ∧ V (64 * a + k) ≠ V (64 * b + k))) (hp : post r) :
    ∃ n, wX_same_88 post (nI (64 * a)) (nI (64 * b)) (nI c) W H V F D U n 0 := by
  refine loop_0 (fun n i (_ : Unit) => wX_same_88 post (nI (64 * a)) (nI (64 * b)) (nI c) W H V F D U n (nI i)) (fun i _ => ∀ k, k < i → V (64 * a + k) = V (64 * b + k)) c () (fun k h => absurd h (Nat.not_lt_zero k)) (fun n _ f => ?_) (fun n i _ hi f k => ?_)
  · refine br_t (Int32.le_refl _) ?_
    rcases hr with ⟨e, _⟩ | ⟨_, j, hj, ne⟩
    · rw [← e]; exact hp
    · exact absurd (f j hj) ne
  · refine br_f (nI_ge hi (by omega)) ⟨pk_in (64 * a + i) 512 (by omega) (nI_add _ _), pk_in (64 * b + i) 512 (by omega) (nI_add _ _), ?_⟩
    rw [nI_add (64 * a) i, nI_add (64 * b) i, nI_clamp (by omega), nI_clamp (by omega)]
    refine br_c (fun e => nm_r (nI_1 i) (k () (lt_s f e))) (fun ne => ?_)
    rcases hr with ⟨_, g⟩ | ⟨e, _⟩
    · exact absurd (g i hi) ne
    · rw [← e]; exact hp
end
end
section
/-! Y's loops: create, level, paint, quarter and turn, mirror, crop, same -/
theorem im_yfT {s : Nat} {V W H T V1 W1 H1 T1 V2 W2 H2 T2 : Nat → Int32} (a : im_YF s V W H T V1 W1 H1 T1) (b : im_YF s V1 W1 H1 T1 V2 W2 H2 T2) : im_YF s V W H T V2 W2 H2 T2 :=
  ⟨fun t ht h8 => ⟨(b.1 t ht h8).1.trans (a.1 t ht h8).1, (b.1 t ht h8).2.1.trans (a.1 t ht h8).2.1, (b.1 t ht h8).2.2.trans (a.1 t ht h8).2.2⟩, fun j hj h => (b.2 j hj h).trans (a.2 j hj h)⟩
theorem im_yf0 {s : Nat} {V W H T : Nat → Int32} : im_YF s V W H T V W H T := ⟨fun _ _ _ => ⟨rfl, rfl, rfl⟩, fun _ _ _ => rfl⟩
section
variable {V W H T D F : Nat → Int32}
theorem im_yCr {post : Int32 → SY → Prop} {s w h : Nat} {q : Int32} (hs : s < 8) (e : W s = nI w) (e' : H s = nI h)
    (hp : ∀ V2, im_Fill (64 * s) 64 (fun _ => q &&& 255) V V2 → post (nI (h * w)) (V2, W, H, T, D, F)) :
    ∃ n, wY_create_55 post (nI s) q n 0 V W H T D F :=
  loop_0 (fun n i V2 => wY_create_55 post (nI s) q n (nI i) V2 W H T D F) (fun i V2 => im_Fill (64 * s) i (fun _ => q &&& 255) V V2) 64 V (im_fill0 _ _ _)
    (fun n V2 f => br_t (Int32.le_refl _) (im_yPl (by omega) e e' (hp V2 f)))
    (fun n i V2 hi f k => br_f (nI_ge (b := 64) hi (by decide)) (im_st (64 * s + i) (by rw [im_e64', nI_add]) (by omega) (by decide) (nm_r (nI_1 i) (k _ (im_fill1 f rfl rfl)))))
theorem im_yLv {post : Int32 → SY → Prop} {s w h : Nat} {a b : Int32} (hs : s < 8) (e : W s = nI w) (e' : H s = nI h)
    (hp : ∀ V2, im_Fill (64 * s) 64 (fun k => (V (64 * s + k) * a + b) &&& 255) V V2 → post (nI (h * w)) (V2, W, H, T, D, F)) :
    ∃ n, wY_level_27 post (nI s) a b n (nI (64 * s)) V W H T D F := by
  have lim : 64 * nI s + 64 = nI (64 * s + 64) := by rw [im_e64', im_64, nI_add]
  refine loop_0 (fun n i V2 => wY_level_27 post (nI s) a b n (nI (64 * s + i)) V2 W H T D F) (fun i V2 => im_Fill (64 * s) i (fun k => (V (64 * s + k) * a + b) &&& 255) V V2) 64 V (im_fill0 _ _ _) (fun n V2 f => ?_) (fun n i V2 hi f k => ?_)
  · refine br_t ?_ (im_yPl (by omega) e e' (hp V2 f))
    rw [lim]
    exact Int32.le_refl _
  · refine br_f ?_ ⟨vp_in_nI (by omega) (by decide), im_st (64 * s + i) rfl (by omega) (by decide) (nm_r (nI_1 (64 * s + i)) (k _ (im_fill1 f ?_ rfl)))⟩
    · rw [lim]
      exact nI_ge (by omega) (by omega)
    · rw [nI_clamp (by omega), f.2 _ (Or.inr (Nat.le_refl _))]
theorem im_yPn {post : Int32 → SY → Prop} {s w h g c : Nat} {q : Int32} {p : Nat → Nat → Int32} (hs : s < 8) (bd : im_Bd w h) (hc : g + c ≤ h * w) (P : im_YP s w h p V W H T)
    (hp : ∀ V2, im_PG (64 * s) w h g c (fun j => (q + nI j * (q >>> ((8 : Int32) &&& 31))) &&& 255) p V V2 → post (nI c) (V2, W, H, T, D, F)) :
    ∃ n, wY_paint_63 post (nI s) (nI g) (nI c) q (nI w) n 0 V W H T D F := by
  have c64 := im_64b bd.2.1 bd.2.2.2
  have w0 := bd.1
  have w8 := bd.2.1
  have wn : ¬ nI w = 0 := nI_ne0 w0 (by omega)
  refine loop_0 (fun n i V2 => wY_paint_63 post (nI s) (nI g) (nI c) q (nI w) n (nI i) V2 W H T D F) (fun i V2 => im_PG (64 * s) w h g i (fun j => (q + nI j * (q >>> ((8 : Int32) &&& 31))) &&& 255) p V V2) c V (im_pg0 P.2.2.2) (fun n V2 f => br_t (Int32.le_refl _) (hp V2 f)) (fun n i V2 hi f k => ?_)
  have r0 : (g + i) / w < h := Nat.div_lt_of_lt_mul (by rw [Nat.mul_comm]; omega)
  have m0 : (g + i) % w < w := Nat.mod_lt _ w0
  have h8 := bd.2.2.2
  refine br_f (nI_ge hi (by omega)) (nm_r (nI_add g i) (br_f (nI_nle w0 (by omega)) ⟨wn, wn, im_st (64 * s + (8 * ((g + i) / w) + (g + i) % w)) ?_ (by omega) (by decide) (nm_r (nI_1 i) (k _ (im_pg1 bd f (by omega) rfl rfl)))⟩))
  rw [pk_rem (by omega) w0 (by omega), pk_div (by omega) w0 (by omega), im_y1]
/-! quarter: slot 8 holds the old picture; a grid of h columns and w rows -/
theorem im_yq1 {h x y : Nat} (hx : x < h) : 512 + 8 * (nI h - 1 - nI x) + nI y = nI (512 + (8 * (h - 1 - x) + y)) := by
  rw [im_1, pk_sub (by omega), pk_sub (by omega), im_e8, im_512, nI_add, nI_add, Nat.add_assoc]
theorem im_yQ47 {post : SY → Prop} {J : Int32 → (Nat → Int32) → (Nat → Int32) → (Nat → Int32) → (Nat → Int32) → (Nat → Int32) → (Nat → Int32) → Prop} {s w h y : Nat} {V1 : Nat → Int32} (hs : s < 8) (bd : im_Bd w h) (hy : y < w)
    (e : W s = nI h) (e8 : H 8 = nI h) (f : im_Grid (64 * s) h y 0 (fun y x => V (512 + (8 * (h - 1 - x) + y))) V V1)
    (hJ : ∀ V2, im_Grid (64 * s) h (y + 1) 0 (fun y x => V (512 + (8 * (h - 1 - x) + y))) V V2 → J (nI (y + 1)) V2 W H T D F) :
    ∃ n, wY_quarter_47 post J (nI s) (nI y) n 0 V1 W H T D F := by
  obtain ⟨w0, w8, h0, h8⟩ := bd
  have is9 : vp_in (nI s) 9 := vp_in_nI (by omega) (by decide)
  have ew : W (nI s).toNatClampNeg = nI h := by rw [nI_clamp (by omega)]; exact e
  refine loop_0 (fun n x V2 => wY_quarter_47 post J (nI s) (nI y) n (nI x) V2 W H T D F) (fun x V2 => im_Grid (64 * s) h y x (fun y x => V (512 + (8 * (h - 1 - x) + y))) V V2) h V1 f (fun n V2 f2 => ?_) (fun n x V2 hx f2 k => ?_)
  · refine ⟨is9, br_t ?_ (nm_r (nI_1 y) (hJ V2 (im_gridR f2)))⟩
    rw [ew]
    exact Int32.le_refl _
  · refine ⟨is9, br_f ?_ ⟨pk_in (512 + (8 * (h - 1 - x) + y)) 576 (by omega) (by rw [e8, im_yq1 hx]), im_st (64 * s + (8 * y + x)) (im_y1 s y x) (by omega) (by decide) (nm_r (nI_1 x) (k _ (im_grid1 f2 h8 (by omega) hx ?_ rfl)))⟩⟩
    · rw [ew]
      exact nI_ge hx (by omega)
    · rw [e8, im_yq1 hx, nI_clamp (by omega)]
      exact f2.2 _ (by omega)
theorem im_yQ35 {post : SY → Prop} {s w h : Nat} (hs : s < 8) (bd : im_Bd w h) (e : W s = nI h) (e' : H s = nI w) (e8 : H 8 = nI h)
    (hp : ∀ V2, im_Grid (64 * s) h w 0 (fun y x => V (512 + (8 * (h - 1 - x) + y))) V V2 → post (V2, W, H, T, D, F)) :
    ∃ n, wY_quarter_35 post (nI s) n 0 V W H T D F := by
  have w8 := bd.2.1
  have is9 : vp_in (nI s) 9 := vp_in_nI (by omega) (by decide)
  have eh : H (nI s).toNatClampNeg = nI w := by rw [nI_clamp (by omega)]; exact e'
  refine loop_0 (fun n y V2 => wY_quarter_35 post (nI s) n (nI y) V2 W H T D F) (fun y V2 => im_Grid (64 * s) h y 0 (fun y x => V (512 + (8 * (h - 1 - x) + y))) V V2) w V (im_grid0 _ _ _ _) (fun n V2 f => ?_) (fun n y V2 hy f k => ?_)
  · refine ⟨is9, br_t ?_ (hp V2 f)⟩
    rw [eh]
    exact Int32.le_refl _
  · refine ⟨is9, br_f ?_ (im_yQ47 hs bd hy e e8 f (fun V3 f3 => k V3 f3))⟩
    rw [eh]
    exact nI_ge hy (by omega)
theorem im_yQu {post : SY → Prop} {s w h : Nat} {p : Nat → Nat → Int32} (hs : s < 8) (bd : im_Bd w h) (P : im_YP s w h p V W H T)
    (hp : ∀ V2 W2 H2 T2 D2 F2, im_YP s h w (fun y x => p (h - 1 - x) y) V2 W2 H2 T2 → im_YF s V W H T V2 W2 H2 T2 → (∀ t, t < 8 → D2 t = D t ∧ F2 t = F t) → post (V2, W2, H2, T2, D2, F2)) :
    wpY_quarter post (V, W, H, T, D, F) (nI s) := by
  have h8 := bd.2.2.2
  have w8 := bd.2.1
  unfold wpY_quarter; dsimp only
  refine im_yBc (t := 8) (by omega) (by decide) (fun V1 f1 => ?_)
  dsimp only
  refine im_st s rfl (by omega) (by decide) (im_st s rfl (by omega) (by decide) ?_)
  have n8 : 8 ≠ s := by omega
  refine im_yQ35 hs bd ?_ ?_ ?_ (fun V2 f2 => hp V2 _ _ _ _ _ ⟨?_, ?_, ?_, ?_⟩ ⟨?_, ?_⟩ ?_)
  · rw [pk_us, pk_us]; exact P.2.2.1
  · rw [pk_us, pk_un n8, pk_us]; exact P.2.1
  · rw [pk_un n8, pk_us]; exact P.2.2.1
  · rw [pk_un n8.symm]; exact P.1
  · rw [pk_us, pk_us]; exact P.2.2.1
  · rw [pk_us, pk_un n8, pk_us]; exact P.2.1
  · intro y x hy hx
    rw [im_ypG f2 y x hy hx]
    show V1 (512 + (8 * (h - 1 - x) + y)) = p (h - 1 - x) y
    have q := f1.1 (8 * (h - 1 - x) + y) (by omega)
    exact q.trans (P.2.2.2 _ _ (by omega) hy)
  · intro t ht t8
    have nt : t ≠ 8 := by omega
    rw [pk_un ht, pk_un nt, pk_un ht, pk_un nt, pk_un nt]
    exact ⟨rfl, rfl, rfl⟩
  · intro j hj j5
    exact (f2.2 j hj).trans (f1.2 j (by omega))
  · intro t t8
    have nt : t ≠ 8 := by omega
    rw [pk_un nt, pk_un nt]
    exact ⟨rfl, rfl⟩
theorem im_yTu {post : Int32 → SY → Prop} {s w h m : Nat} {p : Nat → Nat → Int32} {q : Int32} (hs : s < 8) (bd : im_Bd w h) (hm : m < 4) (eq : q &&& 3 = nI m) (P : im_YP s w h p V W H T)
    (hp : ∀ V2 W2 H2 T2 D2 F2, im_YP s (im_rots (w, h, p) m).1 (im_rots (w, h, p) m).2.1 (im_rots (w, h, p) m).2.2 V2 W2 H2 T2 → im_YF s V W H T V2 W2 H2 T2 → (∀ t, t < 8 → D2 t = D t ∧ F2 t = F t) → post (nI (im_rots (w, h, p) m).1) (V2, W2, H2, T2, D2, F2)) :
    ∃ n, wY_turn_23 post (nI s) q n 0 V W H T D F := by
  refine loop_0 (fun n i (z : (Nat → Int32) × (Nat → Int32) × (Nat → Int32) × (Nat → Int32) × (Nat → Int32) × (Nat → Int32)) => wY_turn_23 post (nI s) q n (nI i) z.1 z.2.1 z.2.2.1 z.2.2.2.1 z.2.2.2.2.1 z.2.2.2.2.2) (fun i z => im_YP s (im_rots (w, h, p) i).1 (im_rots (w, h, p) i).2.1 (im_rots (w, h, p) i).2.2 z.1 z.2.1 z.2.2.1 z.2.2.2.1 ∧ im_YF s V W H T z.1 z.2.1 z.2.2.1 z.2.2.2.1 ∧ ∀ t, t < 8 → z.2.2.2.2.1 t = D t ∧ z.2.2.2.2.2 t = F t) m (V, W, H, T, D, F) ⟨P, im_yf0, fun _ _ => ⟨rfl, rfl⟩⟩ (fun n z f => ?_) (fun n i z hi f k => ?_)
  · refine br_t ?_ ⟨vp_in_nI (by omega) (by decide), ?_⟩
    · rw [eq]; exact Int32.le_refl _
    · rw [nI_clamp (by omega), f.1.2.1]
      exact hp _ _ _ _ _ _ f.1 f.2.1 f.2.2
  · refine br_f ?_ (im_yQu hs (im_rotB (t := (w, h, p)) bd i) f.1 (fun V2 W2 H2 T2 D2 F2 a b c => nm_r (nI_1 i) (k (V2, W2, H2, T2, D2, F2) ⟨a, im_yfT f.2.1 b, fun t ht => ⟨(c t ht).1.trans (f.2.2 t ht).1, (c t ht).2.trans (f.2.2 t ht).2⟩⟩)))
    rw [eq]
    exact nI_ge hi (by omega)
end
end
section
/-! Y's mirror, crop, same -/
section
variable {V W H T D F : Nat → Int32}
theorem im_ym1 {w x y : Nat} (hx : x < w) : 512 + 8 * nI y + nI w - 1 - nI x = nI (512 + (8 * y + (w - 1 - x))) := by
  rw [im_e8, im_512, nI_add, nI_add, im_1, pk_sub (by omega), pk_sub (by omega)]
  exact congrArg nI (by omega)
theorem im_yM42 {post : Int32 → SY → Prop} {J : Int32 → (Nat → Int32) → (Nat → Int32) → (Nat → Int32) → (Nat → Int32) → (Nat → Int32) → (Nat → Int32) → Prop} {s w y : Nat} {V1 : Nat → Int32} (hs : s < 8) (w8 : w ≤ 8) (hy : y < 8)
    (e : W s = nI w) (f : im_Grid (64 * s) w y 0 (fun y x => V (512 + (8 * y + (w - 1 - x)))) V V1)
    (hJ : ∀ V2, im_Grid (64 * s) w (y + 1) 0 (fun y x => V (512 + (8 * y + (w - 1 - x)))) V V2 → J (nI (y + 1)) V2 W H T D F) :
    ∃ n, wY_mirror_42 post J (nI s) (nI y) n 0 V1 W H T D F := by
  have is9 : vp_in (nI s) 9 := vp_in_nI (by omega) (by decide)
  have ew : W (nI s).toNatClampNeg = nI w := by rw [nI_clamp (by omega)]; exact e
  refine loop_0 (fun n x V2 => wY_mirror_42 post J (nI s) (nI y) n (nI x) V2 W H T D F) (fun x V2 => im_Grid (64 * s) w y x (fun y x => V (512 + (8 * y + (w - 1 - x)))) V V2) w V1 f (fun n V2 f2 => ?_) (fun n x V2 hx f2 k => ?_)
  · refine ⟨is9, br_t ?_ (nm_r (nI_1 y) (hJ V2 (im_gridR f2)))⟩
    rw [ew]
    exact Int32.le_refl _
  · refine ⟨is9, br_f ?_ ⟨is9, pk_in (512 + (8 * y + (w - 1 - x))) 576 (by omega) (by rw [ew, im_ym1 hx]), im_st (64 * s + (8 * y + x)) (im_y1 s y x) (by omega) (by decide) (nm_r (nI_1 x) (k _ (im_grid1 f2 w8 hy hx ?_ rfl)))⟩⟩
    · rw [ew]
      exact nI_ge hx (by omega)
    · rw [ew, im_ym1 hx, nI_clamp (by omega)]
      exact f2.2 _ (by omega)
theorem im_yM30 {post : Int32 → SY → Prop} {s w h : Nat} (hs : s < 8) (bd : im_Bd w h) (e : W s = nI w) (e' : H s = nI h)
    (hp : ∀ V2, im_Grid (64 * s) w h 0 (fun y x => V (512 + (8 * y + (w - 1 - x)))) V V2 → post (nI w) (V2, W, H, T, D, F)) :
    ∃ n, wY_mirror_30 post (nI s) n 0 V W H T D F := by
  have h8 := bd.2.2.2
  have is9 : vp_in (nI s) 9 := vp_in_nI (by omega) (by decide)
  have eh : H (nI s).toNatClampNeg = nI h := by rw [nI_clamp (by omega)]; exact e'
  refine loop_0 (fun n y V2 => wY_mirror_30 post (nI s) n (nI y) V2 W H T D F) (fun y V2 => im_Grid (64 * s) w y 0 (fun y x => V (512 + (8 * y + (w - 1 - x)))) V V2) h V (im_grid0 _ _ _ _) (fun n V2 f => ?_) (fun n y V2 hy f k => ?_)
  · refine ⟨is9, br_t ?_ ⟨is9, ?_⟩⟩
    · rw [eh]
      exact Int32.le_refl _
    · rw [nI_clamp (by omega), e]
      exact hp V2 f
  · refine ⟨is9, br_f ?_ (im_yM42 hs bd.2.1 (by omega) e f (fun V3 f3 => k V3 f3))⟩
    rw [eh]
    exact nI_ge hy (by omega)
/-- become(8, s), then a grid out of slot 8 into slot s, of nw columns and nh rows: the picture of slot s -/
theorem im_yG {s w h nw nh : Nat} {p q : Nat → Nat → Int32} {V1 V2 W2 H2 : Nat → Int32} (hs : s < 8) (P : im_YP s w h p V W H T) (f1 : im_Fill (64 * 8) 64 (fun k => V (64 * s + k)) V V1)
    (f2 : im_Grid (64 * s) nw nh 0 q V1 V2) (e : W2 s = nI nw) (e' : H2 s = nI nh) (o : ∀ t, t ≠ s → t < 8 → W2 t = W t ∧ H2 t = H t) :
    im_YP s nw nh q V2 W2 H2 (upd T 8 1) ∧ im_YF s V W H T V2 W2 H2 (upd T 8 1) := by
  have n8 : s ≠ 8 := by omega
  refine ⟨⟨?_, e, e', im_ypG f2⟩, fun t ht t8 => ⟨(o t ht t8).1, (o t ht t8).2, pk_un (by omega)⟩, fun j hj j5 => (f2.2 j hj).trans (f1.2 j (by omega))⟩
  rw [pk_un n8]
  exact P.1
theorem im_yMi {post : Int32 → SY → Prop} {s w h : Nat} {p : Nat → Nat → Int32} (hs : s < 8) (bd : im_Bd w h) (P : im_YP s w h p V W H T)
    (hp : ∀ V2 W2 H2 T2 D2 F2, im_YP s w h (fun y x => p y (w - 1 - x)) V2 W2 H2 T2 → im_YF s V W H T V2 W2 H2 T2 → (∀ t, t < 8 → D2 t = D t ∧ F2 t = F t) → post (nI w) (V2, W2, H2, T2, D2, F2)) :
    wpY_become (fun u => match u with | (a_value_6, a_width_7, a_height_8, a_there_9, a_damaged_10, a_form_11) => (∃ n30 : Nat, wY_mirror_30 post (nI s) n30 0 a_value_6 a_width_7 a_height_8 a_there_9 a_damaged_10 a_form_11)) (V, W, H, T, D, F) 8 (nI s) := by
  have h8 := bd.2.2.2
  have w8 := bd.2.1
  have n8 : s ≠ 8 := by omega
  refine im_yBc (t := 8) (by omega) (by decide) (fun V1 f1 => ?_)
  dsimp only
  refine im_yM30 hs bd ((pk_un n8).trans P.2.1) ((pk_un n8).trans P.2.2.1) (fun V2 f2 => ?_)
  have G := im_yG (W2 := upd W 8 (W s)) (H2 := upd H 8 (H s)) hs P f1 f2 ((pk_un n8).trans P.2.1) ((pk_un n8).trans P.2.2.1) (fun t ht t8 => ⟨pk_un (by omega), pk_un (by omega)⟩)
  refine hp _ _ _ _ _ _ ⟨G.1.1, G.1.2.1, G.1.2.2.1, fun y x hy hx => ?_⟩ G.2 (fun t t8 => ⟨pk_un (by omega), pk_un (by omega)⟩)
  rw [G.1.2.2.2 y x hy hx]
  show V1 (512 + (8 * y + (w - 1 - x))) = p y (w - 1 - x)
  exact (f1.1 (8 * y + (w - 1 - x)) (by omega)).trans (P.2.2.2 _ _ hy (by omega))
theorem im_yc1 (y b x a : Nat) : 512 + 8 * (nI y + nI b) + nI x + nI a = nI (512 + (8 * (y + b) + (x + a))) := by
  rw [nI_add, im_e8, im_512, nI_add, nI_add, nI_add]
  exact congrArg nI (by omega)
theorem im_yC77 {post : Int32 → SY → Prop} {J : Int32 → (Nat → Int32) → (Nat → Int32) → (Nat → Int32) → (Nat → Int32) → (Nat → Int32) → (Nat → Int32) → Prop} {s a b nw y : Nat} {V1 : Nat → Int32} (hs : s < 8) (ha : nw + a ≤ 8) (hy : y + b < 8)
    (e : W s = nI nw) (f : im_Grid (64 * s) nw y 0 (fun y x => V (512 + (8 * (y + b) + (x + a)))) V V1)
    (hJ : ∀ V2, im_Grid (64 * s) nw (y + 1) 0 (fun y x => V (512 + (8 * (y + b) + (x + a)))) V V2 → J (nI (y + 1)) V2 W H T D F) :
    ∃ n, wY_crop_77 post J (nI s) (nI a) (nI b) (nI y) n 0 V1 W H T D F := by
  have is9 : vp_in (nI s) 9 := vp_in_nI (by omega) (by decide)
  have ew : W (nI s).toNatClampNeg = nI nw := by rw [nI_clamp (by omega)]; exact e
  refine loop_0 (fun n x V2 => wY_crop_77 post J (nI s) (nI a) (nI b) (nI y) n (nI x) V2 W H T D F) (fun x V2 => im_Grid (64 * s) nw y x (fun y x => V (512 + (8 * (y + b) + (x + a)))) V V2) nw V1 f (fun n V2 f2 => ?_) (fun n x V2 hx f2 k => ?_)
  · refine ⟨is9, br_t ?_ (nm_r (nI_1 y) (hJ V2 (im_gridR f2)))⟩
    rw [ew]
    exact Int32.le_refl _
  · refine ⟨is9, br_f ?_ ⟨pk_in (512 + (8 * (y + b) + (x + a))) 576 (by omega) (im_yc1 y b x a), im_st (64 * s + (8 * y + x)) (im_y1 s y x) (by omega) (by decide) (nm_r (nI_1 x) (k _ (im_grid1 f2 (by omega) (by omega) hx ?_ rfl)))⟩⟩
    · rw [ew]
      exact nI_ge hx (by omega)
    · rw [im_yc1, nI_clamp (by omega)]
      exact f2.2 _ (by omega)
theorem im_yC63 {post : Int32 → SY → Prop} {s a b nw nh : Nat} (hs : s < 8) (ha : nw + a ≤ 8) (hb : nh + b ≤ 8) (e : W s = nI nw) (e' : H s = nI nh)
    (hp : ∀ V2, im_Grid (64 * s) nw nh 0 (fun y x => V (512 + (8 * (y + b) + (x + a)))) V V2 → post (nI (nh * nw)) (V2, W, H, T, D, F)) :
    ∃ n, wY_crop_63 post (nI s) (nI a) (nI b) n 0 V W H T D F := by
  have is9 : vp_in (nI s) 9 := vp_in_nI (by omega) (by decide)
  have eh : H (nI s).toNatClampNeg = nI nh := by rw [nI_clamp (by omega)]; exact e'
  refine loop_0 (fun n y V2 => wY_crop_63 post (nI s) (nI a) (nI b) n (nI y) V2 W H T D F) (fun y V2 => im_Grid (64 * s) nw y 0 (fun y x => V (512 + (8 * (y + b) + (x + a)))) V V2) nh V (im_grid0 _ _ _ _) (fun n V2 f => ?_) (fun n y V2 hy f k => ?_)
  · refine ⟨is9, br_t ?_ (im_yPl (by omega) e e' (hp V2 f))⟩
    rw [eh]
    exact Int32.le_refl _
  · refine ⟨is9, br_f ?_ (im_yC77 hs ha (by omega) e f (fun V3 f3 => k V3 f3))⟩
    rw [eh]
    exact nI_ge hy (by omega)
theorem im_yS84 {post : Int32 → Prop} {J : Int32 → Prop} {a b w y : Nat} {r : Int32} (ha : a < 8) (hb : b < 8) (w8 : w ≤ 8) (hy : y < 8) (e : W a = nI w)
    (hr : r = 0 ∨ ∀ x, x < w → V (64 * a + (8 * y + x)) = V (64 * b + (8 * y + x))) (hp : r = 0 → post r) (hJ : (∀ x, x < w → V (64 * a + (8 * y + x)) = V (64 * b + (8 * y + x))) → J (nI (y + 1))) :
    ∃ n, wY_same_84 post J (nI a) (nI b) (nI y) V W H T D F n 0 := by
  have is9 : vp_in (nI a) 9 := vp_in_nI (by omega) (by decide)
  have ew : W (nI a).toNatClampNeg = nI w := by rw [nI_clamp (by omega)]; exact e
  refine loop_0 (fun n x (_ : Unit) => wY_same_84 post J (nI a) (nI b) (nI y) V W H T D F n (nI x)) (fun x _ => ∀ c, c < x → V (64 * a + (8 * y + c)) = V (64 * b + (8 * y + c))) w () (fun k h => absurd h (Nat.not_lt_zero k)) (fun n _ f => ?_) (fun n x _ hx f k => ?_)
  · refine ⟨is9, br_t ?_ (nm_r (nI_1 y) (hJ f))⟩
    rw [ew]
    exact Int32.le_refl _
  · refine ⟨is9, br_f ?_ ⟨pk_in (64 * a + (8 * y + x)) 576 (by omega) (im_y1 a y x), pk_in (64 * b + (8 * y + x)) 576 (by omega) (im_y1 b y x), ?_⟩⟩
    · rw [ew]
      exact nI_ge hx (by omega)
    · rw [im_y1 a y x, im_y1 b y x, nI_clamp (by omega), nI_clamp (by omega)]
      refine br_c (fun e => nm_r (nI_1 x) (k () (lt_s f e))) (fun ne => ?_)
      rcases hr with z | g
      · have hz := hp z
        rw [z] at hz
        exact hz
      · exact absurd (g x hx) ne
theorem im_yS71 {post : Int32 → Prop} {a b w h : Nat} {r : Int32} (ha : a < 8) (hb : b < 8) (w8 : w ≤ 8) (h8 : h ≤ 8) (e : W a = nI w) (e' : H a = nI h)
    (hr : (r = 1 ∧ ∀ y x, y < h → x < w → V (64 * a + (8 * y + x)) = V (64 * b + (8 * y + x))) ∨ (r = 0 ∧ ∃ y x, y < h ∧ x < w ∧ V (64 * a + (8 * y + x)) ≠ V (64 * b + (8 * y + x)))) (hp : post r) :
    ∃ n, wY_same_71 post (nI a) (nI b) V W H T D F n 0 := by
  have is9 : vp_in (nI a) 9 := vp_in_nI (by omega) (by decide)
  have eh : H (nI a).toNatClampNeg = nI h := by rw [nI_clamp (by omega)]; exact e'
  refine loop_0 (fun n y (_ : Unit) => wY_same_71 post (nI a) (nI b) V W H T D F n (nI y)) (fun y _ => ∀ c, c < y → ∀ x, x < w → V (64 * a + (8 * c + x)) = V (64 * b + (8 * c + x))) h () (fun k h => absurd h (Nat.not_lt_zero k)) (fun n _ f => ?_) (fun n y _ hy f k => ?_)
  · refine ⟨is9, br_t ?_ ?_⟩
    · rw [eh]
      exact Int32.le_refl _
    · rcases hr with ⟨z, _⟩ | ⟨_, c, x, hc, hx, ne⟩
      · rw [← z]; exact hp
      · exact absurd (f c hc x hx) ne
  · refine ⟨is9, br_f ?_ (im_yS84 (r := r) ha hb w8 (by omega) e ?_ (fun _ => hp) (fun g => k () (lt_s f g)))⟩
    · rw [eh]
      exact nI_ge hy (by omega)
    · rcases hr with ⟨_, g⟩ | ⟨z, _⟩
      · exact Or.inr (fun x hx => g y x hy hx)
      · exact Or.inl z
end
end
section
/-! the relation; cases of arguments -/
/-- each of the eight slots is not there on both sides, or holds one picture on both; formats and damage of the files are the same -/
def i_Rel (_ : Nat) (u : SX) (v : SY) : Prop :=
  im_All u.1 u.2.1 u.2.2.1 v.1 v.2.1 v.2.2.1 v.2.2.2.1 ∧ im_FD u.2.2.2.1 u.2.2.2.2.1 v.2.2.2.2.1 v.2.2.2.2.2
theorem i_up {k : Nat} {u : SX} {v : SY} (h : i_Rel k u v) : i_Rel (k + 5) u v := h
theorem i_vc0 : wpX_init (fun u => wpY_init (fun v => i_Rel 0 u v)) := by
  unfold wpX_init wpY_init
  exact nm_e ⟨fun s hs => Or.inl ⟨rfl, rfl, rfl⟩, fun f hf => ⟨rfl, rfl, Or.inl rfl⟩⟩
theorem im_num (x : Int32) : (x < 0 ∨ nI 4 ≤ x) ∨ ∃ s, s < 4 ∧ x = nI s := by
  rcases pk_ix x (n := 4) (by decide) with h | h | h
  · exact Or.inl (Or.inl h)
  · exact Or.inl (Or.inr h)
  · exact Or.inr h
theorem im_side (x : Int32) (n : Nat) (hn : n < 2 ^ 31) : (x < 1 ∨ ¬ x ≤ nI n) ∨ ∃ w, 0 < w ∧ w ≤ n ∧ x = nI w := by
  by_cases h : x < 1
  · exact Or.inl (Or.inl h)
  · have h0 : ¬ x < 0 := fun z => h (Int32.lt_trans z (by decide))
    obtain ⟨j, hj, rfl⟩ := nI_of h0
    have j1 : ¬ j < 1 := fun z => h (nI_lt (b := 1) z (by decide))
    by_cases h2 : j ≤ n
    · exact Or.inr ⟨j, by omega, h2, rfl⟩
    · exact Or.inl (Or.inr (nI_ge (by omega) hj))
theorem im_plc (x y : Int32) {w h : Nat} (w8 : w ≤ 8) (h8 : h ≤ 8) : (x < 0 ∨ nI w ≤ x ∨ y < 0 ∨ nI h ≤ y) ∨ ∃ a b, a < w ∧ b < h ∧ x = nI a ∧ y = nI b := by
  rcases pk_ix x (n := w) (by omega) with z | z | ⟨a, ha, ea⟩
  · exact Or.inl (Or.inl z)
  · exact Or.inl (Or.inr (Or.inl z))
  · rcases pk_ix y (n := h) (by omega) with z | z | ⟨b, hb, eb⟩
    · exact Or.inl (Or.inr (Or.inr (Or.inl z)))
    · exact Or.inl (Or.inr (Or.inr (Or.inr z)))
    · exact Or.inr ⟨a, b, ha, hb, ea, eb⟩
theorem im_n1 {w : Nat} (h : 0 < w) (h8 : w ≤ 64) : ¬ nI w < 1 := nI_nlt (a := w) (b := 1) h (by omega)
theorem im_m1 : ¬ (-1 : Int32) = 0 := by decide
theorem im_m2 : ¬ (-2 : Int32) = 0 := by decide
theorem im_m3 : ¬ (-3 : Int32) = 0 := by decide
theorem im_yTn {A B : Prop} {T : Nat → Int32} {s : Nat} (hs : s < 9) (e : T s = 0) (a : A) : vp_in (nI s) 9 ∧ ((T (nI s).toNatClampNeg = 0 → A) ∧ (¬ T (nI s).toNatClampNeg = 0 → B)) :=
  ⟨vp_in_nI hs (by decide), br_t (by rw [nI_clamp (by omega)]; exact e) a⟩
theorem im_yTp {A B : Prop} {T : Nat → Int32} {s : Nat} (hs : s < 9) (e : T s = 1) (b : B) : vp_in (nI s) 9 ∧ ((T (nI s).toNatClampNeg = 0 → A) ∧ (¬ T (nI s).toNatClampNeg = 0 → B)) :=
  ⟨vp_in_nI hs (by decide), br_f (by rw [nI_clamp (by omega), e]; exact im_10) b⟩
theorem im_xfU {s : Nat} {W H V V2 : Nat → Int32} {a b : Int32} (h : ∀ j, (j < 64 * s ∨ 64 * s + 64 ≤ j) → V2 j = V j) : im_XF s W H V (upd W s a) (upd H s b) V2 :=
  ⟨fun _ ht => ⟨pk_un ht, pk_un ht⟩, h⟩
end
section
/-! create, set, get -/
theorem i_vc_create {k : Nat} {u : SX} {v : SY} (I : i_Rel k u v) (hk : k + 5 ≤ 2560) (v1 : Int32) (v2 : Int32) (v3 : Int32) (v4 : Int32) : wpX_create (fun r u' => wpY_create (fun r' v' => r' = r ∧ i_Rel (k + 5) u' v') v v1 v2 v3 v4) u v1 v2 v3 v4 := by
  obtain ⟨W, H, V, F, D, U⟩ := u
  obtain ⟨V', W', H', T, D', F'⟩ := v
  have R : i_Rel (k + 5) (W, H, V, F, D, U) (V', W', H', T, D', F') := I
  have A : im_All W H V V' W' H' T := I.1
  rcases im_num v1 with h1 | ⟨s, hs, rfl⟩
  · unfold wpX_create; dsimp only
    refine im_xUn h1 (br_f im_10 ?_)
    unfold wpY_create; dsimp only
    exact im_yUn h1 (br_f im_10 ⟨rfl, R⟩)
  rcases im_side v2 8 (by decide) with h2 | ⟨w, w0, w8, rfl⟩
  · unfold wpX_create; dsimp only
    refine im_xUk hs (br_t rfl (im_xSn h2 (br_f im_10 ?_)))
    unfold wpY_create; dsimp only
    exact im_yUk hs (br_t rfl (br_c (fun _ => ⟨rfl, R⟩) (fun z => br_t (Int32.not_le.mp (h2.resolve_left z)) ⟨rfl, R⟩)))
  have a1 : ¬ nI w < 1 := im_n1 w0 (by omega)
  have a2 : nI w ≤ 8 := nI_le (b := 8) w8 (by decide)
  have a3 : ¬ 8 < nI w := nI_nlt (a := 8) (b := w) w8 (by decide)
  rcases im_side v3 8 (by decide) with h3 | ⟨h, h0, h8, rfl⟩
  · unfold wpX_create; dsimp only
    refine im_xUk hs (br_t rfl (im_xSk a1 a2 (br_t rfl (im_xSn h3 (br_f im_10 ?_)))))
    unfold wpY_create; dsimp only
    exact im_yUk hs (br_t rfl (br_f a1 (br_f a3 (br_c (fun _ => ⟨rfl, R⟩) (fun z => br_f (h3.resolve_left z) ⟨rfl, R⟩)))))
  have b1 : ¬ nI h < 1 := im_n1 h0 (by omega)
  have b2 : nI h ≤ 8 := nI_le (b := 8) h8 (by decide)
  have c64 := im_64b w8 h8
  unfold wpX_create; dsimp only
  refine im_xUk hs (br_t rfl (im_xSk a1 a2 (br_t rfl (im_xSk b1 b2 (br_t rfl (im_st s rfl (by omega) (by decide) (im_st s rfl (by omega) (by decide) (nm_r (im_e64 s) (nm_r (e' := nI (h * w)) (by rw [pk_mul, Nat.mul_comm]) (im_xCr (by omega) c64 (fun V2 f => ?_)))))))))))
  unfold wpY_create; dsimp only
  refine im_yUk hs (br_t rfl (br_f a1 (br_f a3 (br_f b1 (br_t b2 (im_st s rfl (by omega) (by decide) (im_st s rfl (by omega) (by decide) (im_st s rfl (by omega) (by decide) (im_yCr (by omega) pk_us pk_us (fun V3 g => ⟨rfl, ?_, I.2⟩))))))))))
  exact im_put (s := s) (w := w) (h := h) (p := fun _ _ => v4 &&& 255) A ⟨w0, w8, h0, h8⟩ ⟨pk_us, pk_us, im_xpF f (Nat.le_refl _) (fun _ _ _ _ => rfl)⟩ (im_xfU (fun j hj => f.2 j (by omega)))
    ⟨pk_us.trans im_vb1, pk_us, pk_us, fun y x hy hx => g.1 (8 * y + x) (by omega)⟩ ⟨fun t ht _ => ⟨pk_un ht, pk_un ht, pk_un ht⟩, fun j hj _ => g.2 j hj⟩
theorem i_vc_set {k : Nat} {u : SX} {v : SY} (I : i_Rel k u v) (hk : k + 5 ≤ 2560) (v1 : Int32) (v2 : Int32) (v3 : Int32) (v4 : Int32) : wpX_set (fun r u' => wpY_set (fun r' v' => r' = r ∧ i_Rel (k + 5) u' v') v v1 v2 v3 v4) u v1 v2 v3 v4 := by
  obtain ⟨W, H, V, F, D, U⟩ := u
  obtain ⟨V', W', H', T, D', F'⟩ := v
  have R : i_Rel (k + 5) (W, H, V, F, D, U) (V', W', H', T, D', F') := I
  have A : im_All W H V V' W' H' T := I.1
  unfold wpX_set; dsimp only
  rcases im_num v1 with h1 | ⟨s, hs, rfl⟩
  · refine im_xIfU h1 (br_f im_m1 ?_)
    unfold wpY_set; dsimp only
    exact im_yUn h1 (br_f im_10 ⟨rfl, R⟩)
  rcases A s (by omega) with ⟨e1, e2, e3⟩ | ⟨w, h, p, bd, X, Y⟩
  · refine im_xIfN hs e1 (br_f im_m2 ?_)
    unfold wpY_set; dsimp only
    exact im_yUk hs (br_t rfl (im_yTn (by omega) e3 ⟨rfl, R⟩))
  obtain ⟨w0, w8, h0, h8⟩ := bd
  refine im_xIfP hs X.1 w0 w8 (br_t rfl ?_)
  rcases im_plc v2 v3 w8 h8 with o | ⟨a, b, ha, hb, rfl, rfl⟩
  · refine im_xNpT (by omega) X.1 X.2.1 o (br_f im_10 ?_)
    unfold wpY_set; dsimp only
    exact im_yUk hs (br_t rfl (im_yTp (by omega) Y.1 (im_yInF (by omega) Y.2.1 Y.2.2.1 o (br_t rfl ⟨rfl, R⟩))))
  have i1 := im_ix hb ha
  have c64 := im_64b w8 h8
  refine im_xNpF (by omega) X.1 X.2.1 w8 h8 ha hb (br_t rfl (im_xIx (by omega) X.1 ⟨vp_in_nI (by omega) (by decide), nm_r (e' := p b a) ?_ (im_st (64 * s + (b * w + a)) rfl (by omega) (by decide) ?_)⟩))
  · rw [nI_clamp (by omega)]
    exact X.2.2 b a hb ha
  unfold wpY_set; dsimp only
  refine im_yUk hs (br_t rfl (im_yTp (by omega) Y.1 (im_yInT (by omega) Y.2.1 Y.2.2.1 w8 h8 ha hb (br_f im_10 ⟨pk_in (64 * s + (8 * b + a)) 576 (by omega) (im_y1 s b a), nm_r (e' := p b a) ?_ (im_st (64 * s + (8 * b + a)) (im_y1 s b a) (by omega) (by decide) ⟨rfl, ?_, I.2⟩)⟩))))
  · rw [im_y1, nI_clamp (by omega)]
    exact Y.2.2.2 b a hb ha
  · have B : im_Bd w h := ⟨w0, w8, h0, h8⟩
    exact im_put A B (im_setX (c := v4 &&& 255) B ha hb X).1 (im_setX B ha hb X).2 (im_setY B ha hb Y).1 (im_setY B ha hb Y).2
theorem i_vc_get {k : Nat} {u : SX} {v : SY} (I : i_Rel k u v) (hk : k + 5 ≤ 2560) (v1 : Int32) (v2 : Int32) (v3 : Int32) : wpX_get (fun r => wpY_get (fun r' => r' = r ∧ i_Rel (k + 5) u v) v v1 v2 v3) u v1 v2 v3 := by
  obtain ⟨W, H, V, F, D, U⟩ := u
  obtain ⟨V', W', H', T, D', F'⟩ := v
  have R : i_Rel (k + 5) (W, H, V, F, D, U) (V', W', H', T, D', F') := I
  have A : im_All W H V V' W' H' T := I.1
  unfold wpX_get; dsimp only
  rcases im_num v1 with h1 | ⟨s, hs, rfl⟩
  · refine im_xIfU h1 (br_f im_m1 ?_)
    unfold wpY_get; dsimp only
    exact im_yUn h1 (br_f im_10 ⟨rfl, R⟩)
  rcases A s (by omega) with ⟨e1, e2, e3⟩ | ⟨w, h, p, bd, X, Y⟩
  · refine im_xIfN hs e1 (br_f im_m2 ?_)
    unfold wpY_get; dsimp only
    exact im_yUk hs (br_t rfl (im_yTn (by omega) e3 ⟨rfl, R⟩))
  obtain ⟨w0, w8, h0, h8⟩ := bd
  refine im_xIfP hs X.1 w0 w8 (br_t rfl ?_)
  rcases im_plc v2 v3 w8 h8 with o | ⟨a, b, ha, hb, rfl, rfl⟩
  · refine im_xNpT (by omega) X.1 X.2.1 o (br_f im_10 ?_)
    unfold wpY_get; dsimp only
    exact im_yUk hs (br_t rfl (im_yTp (by omega) Y.1 (im_yInF (by omega) Y.2.1 Y.2.2.1 o (br_t rfl ⟨rfl, R⟩))))
  have i1 := im_ix hb ha
  have c64 := im_64b w8 h8
  refine im_xNpF (by omega) X.1 X.2.1 w8 h8 ha hb (br_t rfl (im_xIx (by omega) X.1 ⟨vp_in_nI (by omega) (by decide), ?_⟩))
  unfold wpY_get; dsimp only
  refine im_yUk hs (br_t rfl (im_yTp (by omega) Y.1 (im_yInT (by omega) Y.2.1 Y.2.2.1 w8 h8 ha hb (br_f im_10 ⟨pk_in (64 * s + (8 * b + a)) 576 (by omega) (im_y1 s b a), ?_, R⟩))))
  rw [im_y1, nI_clamp (by omega), nI_clamp (by omega)]
  exact (Y.2.2.2 b a hb ha).trans (X.2.2 b a hb ha).symm
end
section
/-! paint, level, turn, mirror -/
theorem im_fdK {F D D' F' D2 F2 : Nat → Int32} (G : im_FD F D D' F') (o : ∀ f, f < 4 → D2 (4 + f) = D' (4 + f) ∧ F2 (4 + f) = F' (4 + f)) : im_FD F D D2 F2 := fun f hf =>
  ⟨(G f hf).1.trans (o f hf).2.symm, (G f hf).2.1.trans (o f hf).1.symm, (G f hf).2.2⟩
theorem i_vc_paint {k : Nat} {u : SX} {v : SY} (I : i_Rel k u v) (hk : k + 5 ≤ 2560) (v1 : Int32) (v2 : Int32) (v3 : Int32) (v4 : Int32) : wpX_paint (fun r u' => wpY_paint (fun r' v' => r' = r ∧ i_Rel (k + 5) u' v') v v1 v2 v3 v4) u v1 v2 v3 v4 := by
  obtain ⟨W, H, V, F, D, U⟩ := u
  obtain ⟨V', W', H', T, D', F'⟩ := v
  have R : i_Rel (k + 5) (W, H, V, F, D, U) (V', W', H', T, D', F') := I
  have A : im_All W H V V' W' H' T := I.1
  unfold wpX_paint; dsimp only
  rcases im_num v1 with h1 | ⟨s, hs, rfl⟩
  · refine im_xIfU h1 (br_f im_m1 ?_)
    unfold wpY_paint; dsimp only
    exact im_yUn h1 (br_f im_10 ⟨rfl, R⟩)
  rcases A s (by omega) with ⟨e1, e2, e3⟩ | ⟨w, h, p, bd, X, Y⟩
  · refine im_xIfN hs e1 (br_f im_m2 ?_)
    unfold wpY_paint; dsimp only
    exact im_yUk hs (br_t rfl (im_yTn (by omega) e3 ⟨rfl, R⟩))
  have bd' := bd
  obtain ⟨w0, w8, h0, h8⟩ := bd'
  have c64 := im_64b w8 h8
  refine im_xIfP hs X.1 w0 w8 (br_t rfl (im_xPl (by omega) X.1 X.2.1 ?_))
  by_cases z3 : v3 < 1
  · refine br_t z3 ?_
    unfold wpY_paint; dsimp only
    exact im_yUk hs (br_t rfl (im_yTp (by omega) Y.1 (br_t z3 ⟨rfl, R⟩)))
  rcases im_side v3 (h * w) (by omega) with b3 | ⟨c, c0, cN, rfl⟩
  · have b3' := b3.resolve_left z3
    refine br_f z3 (br_t (Int32.not_le.mp b3') ?_)
    unfold wpY_paint; dsimp only
    refine im_yUk hs (br_t rfl (im_yTp (by omega) Y.1 (br_f z3 (br_c (fun _ => ⟨rfl, R⟩) (fun z2 => im_yPl (by omega) Y.2.1 Y.2.2.1 ?_)))))
    refine br_c (fun _ => ⟨rfl, R⟩) (fun z4 => im_yPl (by omega) Y.2.1 Y.2.2.1 (br_f (fun z5 => ?_) ⟨rfl, R⟩))
    obtain ⟨g, hg, rfl⟩ := nI_of z2
    have gN : g < h * w := Nat.lt_of_not_le (fun q => z4 (nI_le q hg))
    rw [pk_sub (by omega)] at z5
    exact b3' (Int32.le_trans z5 (nI_le (by omega) (by omega)))
  have n3 : ¬ nI (h * w) < nI c := nI_nlt cN (by omega)
  rcases pk_ix v2 (n := h * w) (by omega) with z2 | z2 | ⟨g, hg, rfl⟩
  · refine br_f z3 (br_f n3 (br_t z2 ?_))
    unfold wpY_paint; dsimp only
    exact im_yUk hs (br_t rfl (im_yTp (by omega) Y.1 (br_f z3 (br_t z2 ⟨rfl, R⟩))))
  · have y0 : wpY_paint (fun r' v' => r' = -1 ∧ i_Rel (k + 5) (W, H, V, F, D, U) v') (V', W', H', T, D', F') (nI s) v2 (nI c) v4 := by
      unfold wpY_paint; dsimp only
      exact im_yUk hs (br_t rfl (im_yTp (by omega) Y.1 (br_f z3 (br_c (fun _ => ⟨rfl, R⟩) (fun _ => im_yPl (by omega) Y.2.1 Y.2.2.1 (br_t z2 ⟨rfl, R⟩))))))
    refine br_f z3 (br_f n3 (br_c (fun _ => y0) (fun _ => br_f (fun z5 => ?_) y0)))
    rw [pk_sub (by omega)] at z5
    exact absurd (Int32.le_trans z2 z5) (nI_ge (by omega) (by omega))
  have g0 : ¬ nI g < 0 := nI_pos (by omega)
  have gN : ¬ nI (h * w) ≤ nI g := nI_ge hg (by omega)
  by_cases fit : g + c ≤ h * w
  · refine br_f z3 (br_f n3 (br_f g0 (br_t ?_ (nm_r (e' := nI (64 * s + g)) (by rw [im_e64, nI_add]) (nm_e (im_xPn (by omega) (fun V2 f => ?_)))))))
    · rw [pk_sub (by omega)]
      exact nI_le (by omega) (by omega)
    unfold wpY_paint; dsimp only
    refine im_yUk hs (br_t rfl (im_yTp (by omega) Y.1 (br_f z3 (br_f g0 (im_yPl (by omega) Y.2.1 Y.2.2.1 (br_f gN (im_yPl (by omega) Y.2.1 Y.2.2.1 (br_t ?_ ⟨vp_in_nI (by omega) (by decide), nm_r (e' := nI w) ?_ (im_yPn (by omega) bd fit Y (fun V3 q => ⟨rfl, ?_, I.2⟩))⟩))))))))
    · rw [pk_sub (by omega)]
      exact nI_le (by omega) (by omega)
    · rw [nI_clamp (by omega)]
      exact Y.2.1
    · exact im_put A bd (im_pntX bd X fit f).1 (im_pntX bd X fit f).2 (im_pntY Y q).1 (im_pntY Y q).2
  · refine br_f z3 (br_f n3 (br_f g0 (br_f ?_ ?_)))
    · rw [pk_sub (by omega)]
      exact nI_ge (by omega) (by omega)
    unfold wpY_paint; dsimp only
    refine im_yUk hs (br_t rfl (im_yTp (by omega) Y.1 (br_f z3 (br_f g0 (im_yPl (by omega) Y.2.1 Y.2.2.1 (br_f gN (im_yPl (by omega) Y.2.1 Y.2.2.1 (br_f ?_ ⟨rfl, R⟩))))))))
    rw [pk_sub (by omega)]
    exact nI_ge (by omega) (by omega)
theorem i_vc_level {k : Nat} {u : SX} {v : SY} (I : i_Rel k u v) (hk : k + 5 ≤ 2560) (v1 : Int32) (v2 : Int32) (v3 : Int32) : wpX_level (fun r u' => wpY_level (fun r' v' => r' = r ∧ i_Rel (k + 5) u' v') v v1 v2 v3) u v1 v2 v3 := by
  obtain ⟨W, H, V, F, D, U⟩ := u
  obtain ⟨V', W', H', T, D', F'⟩ := v
  have R : i_Rel (k + 5) (W, H, V, F, D, U) (V', W', H', T, D', F') := I
  have A : im_All W H V V' W' H' T := I.1
  unfold wpX_level; dsimp only
  rcases im_num v1 with h1 | ⟨s, hs, rfl⟩
  · refine im_xIfU h1 (br_f im_m1 ?_)
    unfold wpY_level; dsimp only
    exact im_yUn h1 (br_f im_10 ⟨rfl, R⟩)
  rcases A s (by omega) with ⟨e1, e2, e3⟩ | ⟨w, h, p, bd, X, Y⟩
  · refine im_xIfN hs e1 (br_f im_m2 ?_)
    unfold wpY_level; dsimp only
    exact im_yUk hs (br_t rfl (im_yTn (by omega) e3 ⟨rfl, R⟩))
  have bd' := bd
  obtain ⟨w0, w8, h0, h8⟩ := bd'
  have c64 := im_64b w8 h8
  refine im_xIfP hs X.1 w0 w8 (br_t rfl (nm_r (im_e64 s) (im_xPl (by omega) X.1 X.2.1 (im_xLv (by omega) c64 (fun V2 f => ?_)))))
  unfold wpY_level; dsimp only
  refine im_yUk hs (br_t rfl (im_yTp (by omega) Y.1 (nm_r (im_e64' s) (im_yLv (by omega) Y.2.1 Y.2.2.1 (fun V3 g => ⟨rfl, ?_, I.2⟩)))))
  refine im_put (s := s) (w := w) (h := h) (p := fun y x => (p y x * v2 + v3) &&& 255) A bd ⟨X.1, X.2.1, im_xpF f (Nat.le_refl _) (fun y x hy hx => ?_)⟩ ⟨fun _ _ => ⟨rfl, rfl⟩, fun j hj => f.2 j (by omega)⟩
    ⟨Y.1, Y.2.1, Y.2.2.1, fun y x hy hx => (g.1 (8 * y + x) (by omega)).trans ?_⟩ ⟨fun _ _ _ => ⟨rfl, rfl, rfl⟩, fun j hj _ => g.2 j hj⟩
  · rw [X.2.2 y x hy hx]
  · dsimp only
    rw [Y.2.2.2 y x hy hx]
theorem i_vc_turn {k : Nat} {u : SX} {v : SY} (I : i_Rel k u v) (hk : k + 5 ≤ 2560) (v1 : Int32) (v2 : Int32) : wpX_turn (fun r u' => wpY_turn (fun r' v' => r' = r ∧ i_Rel (k + 5) u' v') v v1 v2) u v1 v2 := by
  obtain ⟨W, H, V, F, D, U⟩ := u
  obtain ⟨V', W', H', T, D', F'⟩ := v
  have R : i_Rel (k + 5) (W, H, V, F, D, U) (V', W', H', T, D', F') := I
  have A : im_All W H V V' W' H' T := I.1
  unfold wpX_turn; dsimp only
  rcases im_num v1 with h1 | ⟨s, hs, rfl⟩
  · refine im_xIfU h1 (br_f im_m1 ?_)
    unfold wpY_turn; dsimp only
    exact im_yUn h1 (br_f im_10 ⟨rfl, R⟩)
  rcases A s (by omega) with ⟨e1, e2, e3⟩ | ⟨w, h, p, bd, X, Y⟩
  · refine im_xIfN hs e1 (br_f im_m2 ?_)
    unfold wpY_turn; dsimp only
    exact im_yUk hs (br_t rfl (im_yTn (by omega) e3 ⟨rfl, R⟩))
  obtain ⟨m, hm, em⟩ := pk_andE v2 (m := 3) 2 (by decide)
  refine im_xIfP hs X.1 bd.1 bd.2.1 (br_t rfl (nm_r em (im_xTu (by omega) bd hm X (fun W2 H2 V2 U2 a b => ?_))))
  unfold wpY_turn; dsimp only
  exact im_yUk hs (br_t rfl (im_yTp (by omega) Y.1 (im_yTu (by omega) bd hm em Y (fun V3 W3 H3 T3 D3 F3 c d o => ⟨rfl, im_put A (im_rotB (t := (w, h, p)) bd m) a b c d, im_fdK I.2 (fun f hf => o (4 + f) (by omega))⟩))))
theorem i_vc_mirror {k : Nat} {u : SX} {v : SY} (I : i_Rel k u v) (hk : k + 5 ≤ 2560) (v1 : Int32) : wpX_mirror (fun r u' => wpY_mirror (fun r' v' => r' = r ∧ i_Rel (k + 5) u' v') v v1) u v1 := by
  obtain ⟨W, H, V, F, D, U⟩ := u
  obtain ⟨V', W', H', T, D', F'⟩ := v
  have R : i_Rel (k + 5) (W, H, V, F, D, U) (V', W', H', T, D', F') := I
  have A : im_All W H V V' W' H' T := I.1
  unfold wpX_mirror; dsimp only
  rcases im_num v1 with h1 | ⟨s, hs, rfl⟩
  · refine im_xIfU h1 (br_f im_m1 ?_)
    unfold wpY_mirror; dsimp only
    exact im_yUn h1 (br_f im_10 ⟨rfl, R⟩)
  rcases A s (by omega) with ⟨e1, e2, e3⟩ | ⟨w, h, p, bd, X, Y⟩
  · refine im_xIfN hs e1 (br_f im_m2 ?_)
    unfold wpY_mirror; dsimp only
    exact im_yUk hs (br_t rfl (im_yTn (by omega) e3 ⟨rfl, R⟩))
  refine im_xIfP hs X.1 bd.1 bd.2.1 (br_t rfl ⟨vp_in_nI (by omega) (by decide), nm_r (e' := nI w) (by rw [nI_clamp (by omega), X.1]) ⟨vp_in_nI (by omega) (by decide), nm_r (e' := nI h) (by rw [nI_clamp (by omega), X.2.1]) (im_xMi (by omega) bd X (fun V2 a b => ?_))⟩⟩)
  unfold wpY_mirror; dsimp only
  exact im_yUk hs (br_t rfl (im_yTp (by omega) Y.1 (im_yMi (by omega) bd Y (fun V3 W3 H3 T3 D3 F3 c d o => ⟨rfl, im_put A bd a b c d, im_fdK I.2 (fun f hf => o (4 + f) (by omega))⟩))))
end
section
/-! crop, shrink, copy, save, load, convert -/
theorem im_fdU {F D D' F' D2 F2 : Nat → Int32} {g : Nat} {q d : Int32} (G : im_FD F D D' F') (hd : d = 0 ∨ d = 1) (e1 : F2 (4 + g) = q) (e2 : D2 (4 + g) = d) (o : ∀ t, t ≠ 4 + g → D2 t = D' t ∧ F2 t = F' t) :
    im_FD (upd F g q) (upd D g d) D2 F2 := by
  intro f hf
  by_cases e : f = g
  · subst e
    rw [pk_us, pk_us]
    exact ⟨e1.symm, e2.symm, hd⟩
  · rw [pk_un e, pk_un e]
    obtain ⟨a, b⟩ := o (4 + f) (by omega)
    exact ⟨(G f hf).1.trans b.symm, (G f hf).2.1.trans a.symm, (G f hf).2.2⟩
theorem i_vc_crop {k : Nat} {u : SX} {v : SY} (I : i_Rel k u v) (hk : k + 5 ≤ 2560) (v1 : Int32) (v2 : Int32) (v3 : Int32) : wpX_crop (fun r u' => wpY_crop (fun r' v' => r' = r ∧ i_Rel (k + 5) u' v') v v1 v2 v3) u v1 v2 v3 := by
  obtain ⟨W, H, V, F, D, U⟩ := u
  obtain ⟨V', W', H', T, D', F'⟩ := v
  have R : i_Rel (k + 5) (W, H, V, F, D, U) (V', W', H', T, D', F') := I
  have A : im_All W H V V' W' H' T := I.1
  unfold wpX_crop; dsimp only
  rcases im_num v1 with h1 | ⟨s, hs, rfl⟩
  · refine im_xIfU h1 (br_f im_m1 ?_)
    unfold wpY_crop; dsimp only
    exact im_yUn h1 (br_f im_10 ⟨rfl, R⟩)
  rcases A s (by omega) with ⟨e1, e2, e3⟩ | ⟨w, h, p, bd, X, Y⟩
  · refine im_xIfN hs e1 (br_f im_m2 ?_)
    unfold wpY_crop; dsimp only
    exact im_yUk hs (br_t rfl (im_yTn (by omega) e3 ⟨rfl, R⟩))
  have bd' := bd
  obtain ⟨w0, w8, h0, h8⟩ := bd'
  refine im_xIfP hs X.1 w0 w8 (br_t rfl ?_)
  rcases im_plc v2 v3 w8 h8 with o | ⟨a, b, ha, hb, rfl, rfl⟩
  · refine im_xNpT (by omega) X.1 X.2.1 o (br_f im_10 ?_)
    unfold wpY_crop; dsimp only
    exact im_yUk hs (br_t rfl (im_yTp (by omega) Y.1 (im_yInF (by omega) Y.2.1 Y.2.2.1 o (br_t rfl ⟨rfl, R⟩))))
  have n8 : s ≠ 8 := by omega
  have is9 : vp_in (nI s) 9 := vp_in_nI (by omega) (by decide)
  have ew : W (nI s).toNatClampNeg = nI w := by rw [nI_clamp (by omega)]; exact X.1
  have eh : H (nI s).toNatClampNeg = nI h := by rw [nI_clamp (by omega)]; exact X.2.1
  have fw : upd W' 8 (W' s) (nI s).toNatClampNeg = nI w := by rw [nI_clamp (by omega), pk_un n8]; exact Y.2.1
  have fh : upd H' 8 (H' s) (nI s).toNatClampNeg = nI h := by rw [nI_clamp (by omega), pk_un n8]; exact Y.2.2.1
  refine im_xNpF (by omega) X.1 X.2.1 w8 h8 ha hb (br_t rfl ⟨vp_in_nI (by omega) (by decide), vp_in_nI (by omega) (by decide), ?_⟩)
  rw [ew, eh, pk_sub (Nat.le_of_lt ha), pk_sub (Nat.le_of_lt hb)]
  refine im_xKp (by omega) bd (by omega) (by omega) X (fun V2 c d => im_xPl (w := w - a) (h := h - b) (by omega) pk_us pk_us ?_)
  unfold wpY_crop; dsimp only
  refine im_yUk hs (br_t rfl (im_yTp (by omega) Y.1 (im_yInT (by omega) Y.2.1 Y.2.2.1 w8 h8 ha hb (br_f im_10 (im_yBc (t := 8) (by omega) (by decide) (fun V1 f1 => ?_))))))
  dsimp only
  refine ⟨is9, im_st s rfl (by omega) (by decide) ⟨is9, im_st s rfl (by omega) (by decide) ?_⟩⟩
  rw [fw, fh, pk_sub (Nat.le_of_lt ha), pk_sub (Nat.le_of_lt hb)]
  refine im_yC63 (nw := w - a) (nh := h - b) (by omega) (by omega) (by omega) pk_us pk_us (fun V3 f2 => ⟨rfl, ?_, im_fdK I.2 (fun f hf => ⟨pk_un (by omega), pk_un (by omega)⟩)⟩)
  have G := im_yG (W2 := upd (upd W' 8 (W' s)) s (nI (w - a))) (H2 := upd (upd H' 8 (H' s)) s (nI (h - b))) (by omega) Y f1 f2 pk_us pk_us (fun t ht t8 => ⟨(pk_un ht).trans (pk_un (by omega)), (pk_un ht).trans (pk_un (by omega))⟩)
  refine im_put A ⟨by omega, by omega, by omega, by omega⟩ c d ⟨G.1.1, G.1.2.1, G.1.2.2.1, fun y x hy hx => ?_⟩ G.2
  refine (G.1.2.2.2 y x hy hx).trans ?_
  show V1 (512 + (8 * (y + b) + (x + a))) = p (y + b) (x + a)
  exact (f1.1 (8 * (y + b) + (x + a)) (by omega)).trans (Y.2.2.2 _ _ (by omega) (by omega))
theorem i_vc_shrink {k : Nat} {u : SX} {v : SY} (I : i_Rel k u v) (hk : k + 5 ≤ 2560) (v1 : Int32) (v2 : Int32) (v3 : Int32) : wpX_shrink (fun r u' => wpY_shrink (fun r' v' => r' = r ∧ i_Rel (k + 5) u' v') v v1 v2 v3) u v1 v2 v3 := by
  obtain ⟨W, H, V, F, D, U⟩ := u
  obtain ⟨V', W', H', T, D', F'⟩ := v
  have R : i_Rel (k + 5) (W, H, V, F, D, U) (V', W', H', T, D', F') := I
  have A : im_All W H V V' W' H' T := I.1
  unfold wpX_shrink; dsimp only
  rcases im_num v1 with h1 | ⟨s, hs, rfl⟩
  · refine im_xIfU h1 (br_f im_m1 ?_)
    unfold wpY_shrink; dsimp only
    exact im_yUn h1 (br_f im_10 ⟨rfl, R⟩)
  rcases A s (by omega) with ⟨e1, e2, e3⟩ | ⟨w, h, p, bd, X, Y⟩
  · refine im_xIfN hs e1 (br_f im_m2 ?_)
    unfold wpY_shrink; dsimp only
    exact im_yUk hs (br_t rfl (im_yTn (by omega) e3 ⟨rfl, R⟩))
  have bd' := bd
  obtain ⟨w0, w8, h0, h8⟩ := bd'
  have is8 : vp_in (nI s) 8 := vp_in_nI (by omega) (by decide)
  have is9 : vp_in (nI s) 9 := vp_in_nI (by omega) (by decide)
  have ew : W (nI s).toNatClampNeg = nI w := by rw [nI_clamp (by omega)]; exact X.1
  have eh : H (nI s).toNatClampNeg = nI h := by rw [nI_clamp (by omega)]; exact X.2.1
  have fw : W' (nI s).toNatClampNeg = nI w := by rw [nI_clamp (by omega)]; exact Y.2.1
  have fh : H' (nI s).toNatClampNeg = nI h := by rw [nI_clamp (by omega)]; exact Y.2.2.1
  refine im_xIfP hs X.1 w0 w8 (br_t rfl ⟨is8, ?_⟩)
  rw [ew, eh]
  rcases im_side v2 w (by omega) with b2 | ⟨a, a0, aw, rfl⟩
  · refine im_xSn b2 (br_f im_10 ?_)
    unfold wpY_shrink; dsimp only
    rw [fw, fh]
    exact im_yUk hs (br_t rfl (im_yTp (by omega) Y.1 (br_c (fun _ => ⟨rfl, R⟩) (fun z => ⟨is9, br_t (Int32.not_le.mp (b2.resolve_left z)) ⟨rfl, R⟩⟩))))
  have a1 : ¬ nI a < 1 := im_n1 a0 (by omega)
  have a2 : nI a ≤ nI w := nI_le aw (by omega)
  have a3 : ¬ nI w < nI a := nI_nlt aw (by omega)
  refine im_xSk a1 a2 (br_t rfl ⟨is8, ?_⟩)
  rcases im_side v3 h (by omega) with b3 | ⟨b, b0, bh, rfl⟩
  · refine im_xSn b3 (br_f im_10 ?_)
    unfold wpY_shrink; dsimp only
    rw [fw, fh]
    exact im_yUk hs (br_t rfl (im_yTp (by omega) Y.1 (br_f a1 ⟨is9, br_f a3 (br_c (fun _ => ⟨rfl, R⟩) (fun z => ⟨is9, br_f (b3.resolve_left z) ⟨rfl, R⟩⟩))⟩)))
  have c1 : ¬ nI b < 1 := im_n1 b0 (by omega)
  have c2 : nI b ≤ nI h := nI_le bh (by omega)
  refine im_xSk c1 c2 (br_t rfl (im_xKp (a := 0) (b := 0) (by omega) bd (by omega) (by omega) X (fun V2 c d => im_xPl (w := a) (h := b) (by omega) pk_us pk_us ?_)))
  unfold wpY_shrink; dsimp only
  rw [fw, fh]
  refine im_yUk hs (br_t rfl (im_yTp (by omega) Y.1 (br_f a1 ⟨is9, br_f a3 (br_f c1 ⟨is9, br_t c2 (im_st s rfl (by omega) (by decide) (im_st s rfl (by omega) (by decide) (im_yPl (w := a) (h := b) (by omega) pk_us pk_us ⟨rfl, ?_, I.2⟩)))⟩)⟩)))
  exact im_put A ⟨a0, by omega, b0, by omega⟩ c d ⟨Y.1, pk_us, pk_us, fun y x hy hx => Y.2.2.2 y x (by omega) (by omega)⟩ ⟨fun t ht _ => ⟨pk_un ht, pk_un ht, rfl⟩, fun _ _ _ => rfl⟩
theorem i_vc_copy {k : Nat} {u : SX} {v : SY} (I : i_Rel k u v) (hk : k + 5 ≤ 2560) (v1 : Int32) (v2 : Int32) : wpX_copy (fun r u' => wpY_copy (fun r' v' => r' = r ∧ i_Rel (k + 5) u' v') v v1 v2) u v1 v2 := by
  obtain ⟨W, H, V, F, D, U⟩ := u
  obtain ⟨V', W', H', T, D', F'⟩ := v
  have R : i_Rel (k + 5) (W, H, V, F, D, U) (V', W', H', T, D', F') := I
  have A : im_All W H V V' W' H' T := I.1
  unfold wpX_copy; dsimp only
  rcases im_num v1 with h1 | ⟨s, hs, rfl⟩
  · refine im_xUn h1 (br_f im_10 ?_)
    unfold wpY_copy; dsimp only
    exact im_yUn h1 (br_f im_10 ⟨rfl, R⟩)
  rcases im_num v2 with h2 | ⟨t, ht, rfl⟩
  · refine im_xUk hs (br_t rfl (im_xUn h2 (br_f im_10 ?_)))
    unfold wpY_copy; dsimp only
    exact im_yUk hs (br_t rfl (im_yUn h2 (br_f im_10 ⟨rfl, R⟩)))
  rcases A s (by omega) with ⟨e1, e2, e3⟩ | ⟨w, h, p, bd, X, Y⟩
  · refine im_xUk hs (br_t rfl (im_xUk ht (br_t rfl (im_xAbT (by omega) e1 (br_f im_10 ?_)))))
    unfold wpY_copy; dsimp only
    exact im_yUk hs (br_t rfl (im_yUk ht (br_t rfl (im_yTn (by omega) e3 ⟨rfl, R⟩))))
  have w8 := bd.2.1
  refine im_xUk hs (br_t rfl (im_xUk ht (br_t rfl (im_xAbF (by omega) (by rw [X.1]; exact nI_ne0 bd.1 (by omega)) (br_t rfl (im_xCs (by omega) (by omega) bd X.1 X.2.1 (fun V2 f => im_xPl (w := w) (h := h) (by omega) (pk_us.trans X.1) (pk_us.trans X.2.1) ?_)))))))
  unfold wpY_copy; dsimp only
  refine im_yUk hs (br_t rfl (im_yUk ht (br_t rfl (im_yTp (by omega) Y.1 (im_yBc (by omega) (by omega) (fun V3 g => im_yPl (w := w) (h := h) (by omega) (pk_us.trans Y.2.1) (pk_us.trans Y.2.2.1) ⟨rfl, ?_, im_fdK I.2 (fun f hf => ⟨pk_un (by omega), pk_un (by omega)⟩)⟩))))))
  exact im_put A bd (im_copyX bd X rfl f).1 (im_copyX bd X rfl f).2 (im_copyY bd Y g).1 (im_copyY bd Y g).2
theorem i_vc_save {k : Nat} {u : SX} {v : SY} (I : i_Rel k u v) (hk : k + 5 ≤ 2560) (v1 : Int32) (v2 : Int32) (v3 : Int32) : wpX_save (fun r u' => wpY_save (fun r' v' => r' = r ∧ i_Rel (k + 5) u' v') v v1 v2 v3) u v1 v2 v3 := by
  obtain ⟨W, H, V, F, D, U⟩ := u
  obtain ⟨V', W', H', T, D', F'⟩ := v
  have R : i_Rel (k + 5) (W, H, V, F, D, U) (V', W', H', T, D', F') := I
  have A : im_All W H V V' W' H' T := I.1
  unfold wpX_save; dsimp only
  rcases im_num v1 with h1 | ⟨s, hs, rfl⟩
  · refine im_xUn h1 (br_f im_10 ?_)
    unfold wpY_save; dsimp only
    exact im_yUn h1 (br_f im_10 ⟨rfl, R⟩)
  rcases im_num v2 with h2 | ⟨t, ht, rfl⟩
  · refine im_xUk hs (br_t rfl (im_xUn h2 (br_f im_10 ?_)))
    unfold wpY_save; dsimp only
    exact im_yUk hs (br_t rfl (im_yUn h2 (br_f im_10 ⟨rfl, R⟩)))
  rcases im_num v3 with h3 | ⟨q, hq, rfl⟩
  · refine im_xUk hs (br_t rfl (im_xUk ht (br_t rfl (im_xUn h3 (br_f im_10 ?_)))))
    unfold wpY_save; dsimp only
    exact im_yUk hs (br_t rfl (im_yUk ht (br_t rfl (im_yUn h3 (br_f im_10 ⟨rfl, R⟩)))))
  rcases A s (by omega) with ⟨e1, e2, e3⟩ | ⟨w, h, p, bd, X, Y⟩
  · refine im_xUk hs (br_t rfl (im_xUk ht (br_t rfl (im_xUk hq (br_t rfl (im_xAbT (by omega) e1 (br_f im_10 ?_)))))))
    unfold wpY_save; dsimp only
    exact im_yUk hs (br_t rfl (im_yUk ht (br_t rfl (im_yUk hq (br_t rfl (im_yTn (by omega) e3 ⟨rfl, R⟩))))))
  have w8 := bd.2.1
  refine im_xUk hs (br_t rfl (im_xUk ht (br_t rfl (im_xUk hq (br_t rfl (im_xAbF (by omega) (by rw [X.1]; exact nI_ne0 bd.1 (by omega)) (br_t rfl (im_xWf (by omega) ht bd X.1 X.2.1 (fun V2 f => ?_)))))))))
  dsimp only
  unfold wpY_save; dsimp only
  rw [im_e4]
  refine im_yUk hs (br_t rfl (im_yUk ht (br_t rfl (im_yUk hq (br_t rfl (im_yTp (by omega) Y.1 (im_yBc (by omega) (by omega) (fun V3 g => ?_))))))))
  dsimp only
  refine im_st (4 + t) rfl (by omega) (by decide) (im_st (4 + t) rfl (by omega) (by decide) (im_yPl (w := w) (h := h) (by omega) (im_us.trans Y.2.1) (im_us.trans Y.2.2.1) ⟨rfl, ?_, ?_⟩))
  · exact im_put A bd (im_copyX bd X rfl f).1 (im_copyX bd X rfl f).2 (im_copyY bd Y g).1 (im_copyY bd Y g).2
  · exact im_fdU I.2 (Or.inl rfl) pk_us (pk_us.trans im_vb0) (fun j hj => ⟨(pk_un hj).trans (pk_un hj), (pk_un hj).trans (pk_un hj)⟩)
end
section
/-! load, convert, damage, cut, duplicate -/
theorem i_vc_load {k : Nat} {u : SX} {v : SY} (I : i_Rel k u v) (hk : k + 5 ≤ 2560) (v1 : Int32) (v2 : Int32) : wpX_load (fun r u' => wpY_load (fun r' v' => r' = r ∧ i_Rel (k + 5) u' v') v v1 v2) u v1 v2 := by
  obtain ⟨W, H, V, F, D, U⟩ := u
  obtain ⟨V', W', H', T, D', F'⟩ := v
  have R : i_Rel (k + 5) (W, H, V, F, D, U) (V', W', H', T, D', F') := I
  have A : im_All W H V V' W' H' T := I.1
  unfold wpX_load; dsimp only
  rcases im_num v1 with h1 | ⟨s, hs, rfl⟩
  · refine im_xUn h1 (br_f im_10 ?_)
    unfold wpY_load; dsimp only
    exact im_yUn h1 (br_f im_10 ⟨rfl, R⟩)
  rcases im_num v2 with h2 | ⟨t, ht, rfl⟩
  · refine im_xUk hs (br_t rfl (im_xUn h2 (br_f im_10 ?_)))
    unfold wpY_load; dsimp only
    exact im_yUk hs (br_t rfl (im_yUn h2 (br_f im_10 ⟨rfl, R⟩)))
  rw [im_e4]
  rcases A (4 + s) (by omega) with ⟨e1, e2, e3⟩ | ⟨w, h, p, bd, X, Y⟩
  · refine im_xUk hs (br_t rfl (im_xUk ht (br_t rfl (im_xFfN hs e1 (br_f im_m2 ?_)))))
    unfold wpY_load; dsimp only
    exact im_yUk hs (br_t rfl (im_yUk ht (br_t rfl (im_yCkN hs e3 (br_f im_m2 ⟨rfl, R⟩)))))
  have w8 := bd.2.1
  have d1 : D s = D' (4 + s) := (I.2 s hs).2.1
  by_cases d0 : D s = 0
  · refine im_xUk hs (br_t rfl (im_xUk ht (br_t rfl (im_xFfP hs X.1 bd.1 w8 d0 (br_t rfl (im_xCs (by omega) (by omega) bd X.1 X.2.1 (fun V2 f => im_xPl (w := w) (h := h) (by omega) (pk_us.trans X.1) (pk_us.trans X.2.1) ?_)))))))
    unfold wpY_load; dsimp only
    rw [im_e4]
    refine im_yUk hs (br_t rfl (im_yUk ht (br_t rfl (im_yCkP hs Y.1 (d1.symm.trans d0) (br_t rfl (im_yBc (by omega) (by omega) (fun V3 g => im_yPl (w := w) (h := h) (by omega) (pk_us.trans Y.2.1) (pk_us.trans Y.2.2.1) ⟨rfl, ?_, im_fdK I.2 (fun f hf => ⟨pk_un (by omega), pk_un (by omega)⟩)⟩)))))))
    exact im_put A bd (im_copyX bd X rfl f).1 (im_copyX bd X rfl f).2 (im_copyY bd Y g).1 (im_copyY bd Y g).2
  · refine im_xUk hs (br_t rfl (im_xUk ht (br_t rfl (im_xFfB hs X.1 bd.1 w8 d0 (br_f im_m3 ?_)))))
    unfold wpY_load; dsimp only
    exact im_yUk hs (br_t rfl (im_yUk ht (br_t rfl (im_yCkB hs Y.1 (by rw [← d1]; exact d0) (br_f im_m3 ⟨rfl, R⟩)))))
theorem i_vc_convert {k : Nat} {u : SX} {v : SY} (I : i_Rel k u v) (hk : k + 5 ≤ 2560) (v1 : Int32) (v2 : Int32) (v3 : Int32) : wpX_convert (fun r u' => wpY_convert (fun r' v' => r' = r ∧ i_Rel (k + 5) u' v') v v1 v2 v3) u v1 v2 v3 := by
  obtain ⟨W, H, V, F, D, U⟩ := u
  obtain ⟨V', W', H', T, D', F'⟩ := v
  have R : i_Rel (k + 5) (W, H, V, F, D, U) (V', W', H', T, D', F') := I
  have A : im_All W H V V' W' H' T := I.1
  unfold wpX_convert; dsimp only
  rcases im_num v1 with h1 | ⟨s, hs, rfl⟩
  · refine im_xUn h1 (br_f im_10 ?_)
    unfold wpY_convert; dsimp only
    exact im_yUn h1 (br_f im_10 ⟨rfl, R⟩)
  rcases im_num v2 with h2 | ⟨t, ht, rfl⟩
  · refine im_xUk hs (br_t rfl (im_xUn h2 (br_f im_10 ?_)))
    unfold wpY_convert; dsimp only
    exact im_yUk hs (br_t rfl (im_yUn h2 (br_f im_10 ⟨rfl, R⟩)))
  rcases im_num v3 with h3 | ⟨q, hq, rfl⟩
  · refine im_xUk hs (br_t rfl (im_xUk ht (br_t rfl (im_xUn h3 (br_f im_10 ?_)))))
    unfold wpY_convert; dsimp only
    exact im_yUk hs (br_t rfl (im_yUk ht (br_t rfl (im_yUn h3 (br_f im_10 ⟨rfl, R⟩)))))
  rw [im_e4]
  rcases A (4 + s) (by omega) with ⟨e1, e2, e3⟩ | ⟨w, h, p, bd, X, Y⟩
  · refine im_xUk hs (br_t rfl (im_xUk ht (br_t rfl (im_xUk hq (br_t rfl (im_xFfN hs e1 (br_f im_m2 ?_)))))))
    unfold wpY_convert; dsimp only
    exact im_yUk hs (br_t rfl (im_yUk ht (br_t rfl (im_yUk hq (br_t rfl (im_yCkN hs e3 (br_f im_m2 ⟨rfl, R⟩)))))))
  have w8 := bd.2.1
  have d1 : D s = D' (4 + s) := (I.2 s hs).2.1
  by_cases d0 : D s = 0
  · refine im_xUk hs (br_t rfl (im_xUk ht (br_t rfl (im_xUk hq (br_t rfl (im_xFfP hs X.1 bd.1 w8 d0 (br_t rfl (im_xWf (by omega) ht bd X.1 X.2.1 (fun V2 f => ?_)))))))))
    dsimp only
    unfold wpY_convert; dsimp only
    rw [im_e4, im_e4]
    refine im_yUk hs (br_t rfl (im_yUk ht (br_t rfl (im_yUk hq (br_t rfl (im_yCkP hs Y.1 (d1.symm.trans d0) (br_t rfl (im_yBc (by omega) (by omega) (fun V3 g => ?_)))))))))
    dsimp only
    refine im_st (4 + t) rfl (by omega) (by decide) (im_yPl (w := w) (h := h) (by omega) (pk_us.trans Y.2.1) (pk_us.trans Y.2.2.1) ⟨rfl, ?_, ?_⟩)
    · exact im_put A bd (im_copyX bd X rfl f).1 (im_copyX bd X rfl f).2 (im_copyY bd Y g).1 (im_copyY bd Y g).2
    · exact im_fdU I.2 (Or.inl rfl) pk_us (pk_us.trans (by rw [← d1, d0]; exact im_vb0)) (fun j hj => ⟨pk_un hj, (pk_un hj).trans (pk_un hj)⟩)
  · refine im_xUk hs (br_t rfl (im_xUk ht (br_t rfl (im_xUk hq (br_t rfl (im_xFfB hs X.1 bd.1 w8 d0 (br_f im_m3 ?_)))))))
    unfold wpY_convert; dsimp only
    exact im_yUk hs (br_t rfl (im_yUk ht (br_t rfl (im_yUk hq (br_t rfl (im_yCkB hs Y.1 (by rw [← d1]; exact d0) (br_f im_m3 ⟨rfl, R⟩)))))))
theorem im_spoil {k : Nat} {u : SX} {v : SY} (I : i_Rel k u v) (v1 : Int32) : wpX_spoil (fun r u' => wpY_spoil (fun r' v' => r' = r ∧ i_Rel (k + 5) u' v') v v1) u v1 := by
  obtain ⟨W, H, V, F, D, U⟩ := u
  obtain ⟨V', W', H', T, D', F'⟩ := v
  have R : i_Rel (k + 5) (W, H, V, F, D, U) (V', W', H', T, D', F') := I
  have A : im_All W H V V' W' H' T := I.1
  unfold wpX_spoil; dsimp only
  rcases im_num v1 with h1 | ⟨s, hs, rfl⟩
  · refine im_xFfU h1 (br_f im_m1 ?_)
    unfold wpY_spoil; dsimp only
    exact im_yUn h1 (br_f im_10 ⟨rfl, R⟩)
  rcases A (4 + s) (by omega) with ⟨e1, e2, e3⟩ | ⟨w, h, p, bd, X, Y⟩
  · refine im_xFfN hs e1 (br_f im_m2 ?_)
    unfold wpY_spoil; dsimp only
    exact im_yUk hs (br_t rfl (im_yCkN hs e3 (br_f im_m2 ⟨rfl, R⟩)))
  have w8 := bd.2.1
  have d1 : D s = D' (4 + s) := (I.2 s hs).2.1
  by_cases d0 : D s = 0
  · refine im_xFfP hs X.1 bd.1 w8 d0 (br_t rfl (im_st s rfl hs (by decide) ?_))
    unfold wpY_spoil; dsimp only
    rw [im_e4]
    refine im_yUk hs (br_t rfl (im_yCkP hs Y.1 (d1.symm.trans d0) (br_t rfl (im_st (4 + s) rfl (by omega) (by decide) ⟨rfl, A, ?_⟩))))
    rw [im_vb1]
    intro f hf
    by_cases e : f = s
    · subst e
      exact ⟨(I.2 f hf).1, pk_us.trans pk_us.symm, Or.inr pk_us⟩
    · have e4 : 4 + f ≠ 4 + s := by omega
      exact ⟨(I.2 f hf).1, (pk_un e).trans ((I.2 f hf).2.1.trans (pk_un e4).symm), (I.2 f hf).2.2.elim (fun z => Or.inl ((pk_un e).trans z)) (fun z => Or.inr ((pk_un e).trans z))⟩
  · refine im_xFfB hs X.1 bd.1 w8 d0 (br_f im_m3 ?_)
    unfold wpY_spoil; dsimp only
    exact im_yUk hs (br_t rfl (im_yCkB hs Y.1 (by rw [← d1]; exact d0) (br_f im_m3 ⟨rfl, R⟩)))
theorem i_vc_damage {k : Nat} {u : SX} {v : SY} (I : i_Rel k u v) (hk : k + 5 ≤ 2560) (v1 : Int32) (v2 : Int32) : wpX_damage (fun r u' => wpY_damage (fun r' v' => r' = r ∧ i_Rel (k + 5) u' v') v v1 v2) u v1 v2 := by
  unfold wpX_damage wpY_damage
  exact im_spoil I v1
theorem i_vc_cut {k : Nat} {u : SX} {v : SY} (I : i_Rel k u v) (hk : k + 5 ≤ 2560) (v1 : Int32) (v2 : Int32) : wpX_cut (fun r u' => wpY_cut (fun r' v' => r' = r ∧ i_Rel (k + 5) u' v') v v1 v2) u v1 v2 := by
  unfold wpX_cut wpY_cut
  exact im_spoil I v1
theorem i_vc_duplicate {k : Nat} {u : SX} {v : SY} (I : i_Rel k u v) (hk : k + 5 ≤ 2560) (v1 : Int32) (v2 : Int32) : wpX_duplicate (fun r u' => wpY_duplicate (fun r' v' => r' = r ∧ i_Rel (k + 5) u' v') v v1 v2) u v1 v2 := by
  obtain ⟨W, H, V, F, D, U⟩ := u
  obtain ⟨V', W', H', T, D', F'⟩ := v
  have R : i_Rel (k + 5) (W, H, V, F, D, U) (V', W', H', T, D', F') := I
  have A : im_All W H V V' W' H' T := I.1
  unfold wpX_duplicate; dsimp only
  rcases im_num v1 with h1 | ⟨s, hs, rfl⟩
  · refine im_xUn h1 (br_f im_10 ?_)
    unfold wpY_duplicate; dsimp only
    exact im_yUn h1 (br_f im_10 ⟨rfl, R⟩)
  rcases im_num v2 with h2 | ⟨t, ht, rfl⟩
  · refine im_xUk hs (br_t rfl (im_xUn h2 (br_f im_10 ?_)))
    unfold wpY_duplicate; dsimp only
    exact im_yUk hs (br_t rfl (im_yUn h2 (br_f im_10 ⟨rfl, R⟩)))
  rw [im_e4, im_e4]
  rcases A (4 + s) (by omega) with ⟨e1, e2, e3⟩ | ⟨w, h, p, bd, X, Y⟩
  · refine im_xUk hs (br_t rfl (im_xUk ht (br_t rfl (im_xAbT (by omega) e1 (br_f im_10 ?_)))))
    unfold wpY_duplicate; dsimp only
    rw [im_e4, im_e4]
    exact im_yUk hs (br_t rfl (im_yUk ht (br_t rfl (im_yTn (by omega) e3 ⟨rfl, R⟩))))
  have w8 := bd.2.1
  have G : im_FD F D D' F' := I.2
  obtain ⟨q1, q2, q3⟩ := G s hs
  have is4 : vp_in (nI s) 4 := vp_in_nI hs (by decide)
  refine im_xUk hs (br_t rfl (im_xUk ht (br_t rfl (im_xAbF (by omega) (by rw [X.1]; exact nI_ne0 bd.1 (by omega)) (br_t rfl (im_xCs (by omega) (by omega) bd X.1 X.2.1 (fun V2 f => ⟨is4, im_st t rfl ht (by decide) ⟨is4, im_st t rfl ht (by decide) ?_⟩⟩)))))))
  dsimp only
  rw [nI_clamp (n := s) (by omega), im_vb q3]
  unfold wpY_duplicate; dsimp only
  rw [im_e4, im_e4]
  refine im_yUk hs (br_t rfl (im_yUk ht (br_t rfl (im_yTp (by omega) Y.1 (im_yBc (by omega) (by omega) (fun V3 g => ⟨rfl, ?_, ?_⟩))))))
  · exact im_put A bd (im_copyX bd X rfl f).1 (im_copyX bd X rfl f).2 (im_copyY bd Y g).1 (im_copyY bd Y g).2
  · exact im_fdU I.2 q3 (pk_us.trans q1.symm) (pk_us.trans (by rw [← q2]; exact im_vb q3)) (fun j hj => ⟨pk_un hj, pk_un hj⟩)
end
section
/-! image, file, same -/
theorem i_vc_image {k : Nat} {u : SX} {v : SY} (I : i_Rel k u v) (hk : k + 5 ≤ 2560) (v1 : Int32) (v2 : Int32) : wpX_image (fun r => wpY_image (fun r' => r' = r ∧ i_Rel (k + 5) u v) v v1 v2) u v1 v2 := by
  obtain ⟨W, H, V, F, D, U⟩ := u
  obtain ⟨V', W', H', T, D', F'⟩ := v
  have R : i_Rel (k + 5) (W, H, V, F, D, U) (V', W', H', T, D', F') := I
  have A : im_All W H V V' W' H' T := I.1
  unfold wpX_image; dsimp only
  rcases im_num v1 with h1 | ⟨s, hs, rfl⟩
  · refine im_xUn h1 (br_f im_10 ?_)
    unfold wpY_image; dsimp only
    exact im_yUn h1 (br_f im_10 ⟨rfl, R⟩)
  have is8 : vp_in (nI s) 8 := vp_in_nI (by omega) (by decide)
  have is9 : vp_in (nI s) 9 := vp_in_nI (by omega) (by decide)
  refine im_xUk hs (br_t rfl ?_)
  by_cases n0 : v2 < 0
  · refine br_t n0 ?_
    unfold wpY_image; dsimp only
    exact im_yUk hs (br_t rfl (br_t n0 ⟨rfl, R⟩))
  by_cases n2 : v2 ≤ 2
  · have n2' : ¬ 2 < v2 := Int32.not_lt.mpr n2
    refine br_f n0 (br_f n2' ?_)
    have cs : v2 = 0 ∨ v2 = 1 ∨ v2 = 2 := by
      obtain ⟨j, hj, rfl⟩ := nI_of2 (n := 2) (by decide) n0 n2
      have : j = 0 ∨ j = 1 ∨ j = 2 := by omega
      rcases this with rfl | rfl | rfl
      · exact Or.inl rfl
      · exact Or.inr (Or.inl rfl)
      · exact Or.inr (Or.inr rfl)
    have ns : (nI s).toNatClampNeg = s := nI_clamp (by omega)
    rcases A s (by omega) with ⟨e1, e2, e3⟩ | ⟨w, h, p, bd, X, Y⟩
    · have y0 : wpY_image (fun r' => r' = 0 ∧ i_Rel (k + 5) (W, H, V, F, D, U) (V', W', H', T, D', F')) (V', W', H', T, D', F') (nI s) v2 := by
        unfold wpY_image; dsimp only
        exact im_yUk hs (br_t rfl (br_f n0 (br_t n2 (im_yTn (by omega) e3 ⟨rfl, R⟩))))
      rw [ns, e1, e2]
      exact br_c (fun _ => im_xAbT (by omega) e1 (br_f im_10 y0)) (fun _ => br_c (fun _ => ⟨is8, y0⟩) (fun _ => br_c (fun _ => ⟨is8, y0⟩) (fun _ => trivial)))
    · have w8 := bd.2.1
      rw [ns, X.1, X.2.1]
      rcases cs with rfl | rfl | rfl
      · refine br_t rfl (im_xAbF (by omega) (by rw [X.1]; exact nI_ne0 bd.1 (by omega)) (br_t rfl ?_))
        unfold wpY_image; dsimp only
        exact im_yUk hs (br_t rfl (br_f n0 (br_t n2 (im_yTp (by omega) Y.1 (br_t rfl ⟨rfl, R⟩)))))
      · refine br_f (by decide) (br_t rfl ⟨is8, ?_⟩)
        unfold wpY_image; dsimp only
        exact im_yUk hs (br_t rfl (br_f n0 (br_t n2 (im_yTp (by omega) Y.1 (br_f (by decide) (br_t rfl ⟨is9, by rw [ns]; exact Y.2.1, R⟩))))))
      · refine br_f (by decide) (br_f (by decide) (br_t rfl ⟨is8, ?_⟩))
        unfold wpY_image; dsimp only
        exact im_yUk hs (br_t rfl (br_f n0 (br_t n2 (im_yTp (by omega) Y.1 (br_f (by decide) (br_f (by decide) ⟨is9, by rw [ns]; exact Y.2.2.1, R⟩))))))
  · refine br_f n0 (br_t (Int32.not_le.mp n2) ?_)
    unfold wpY_image; dsimp only
    exact im_yUk hs (br_t rfl (br_f n0 (br_f n2 ⟨rfl, R⟩)))
theorem im_q4 {j : Nat} (hj : j < 4) : nI j = 0 ∨ nI j = 1 ∨ nI j = 2 ∨ nI j = 3 := by
  have : j = 0 ∨ j = 1 ∨ j = 2 ∨ j = 3 := by omega
  rcases this with rfl | rfl | rfl | rfl
  · exact Or.inl rfl
  · exact Or.inr (Or.inl rfl)
  · exact Or.inr (Or.inr (Or.inl rfl))
  · exact Or.inr (Or.inr (Or.inr rfl))
theorem i_vc_file {k : Nat} {u : SX} {v : SY} (I : i_Rel k u v) (hk : k + 5 ≤ 2560) (v1 : Int32) (v2 : Int32) : wpX_file (fun r => wpY_file (fun r' => r' = r ∧ i_Rel (k + 5) u v) v v1 v2) u v1 v2 := by
  obtain ⟨W, H, V, F, D, U⟩ := u
  obtain ⟨V', W', H', T, D', F'⟩ := v
  have R : i_Rel (k + 5) (W, H, V, F, D, U) (V', W', H', T, D', F') := I
  have A : im_All W H V V' W' H' T := I.1
  have G : im_FD F D D' F' := I.2
  unfold wpX_file; dsimp only
  rcases im_num v1 with h1 | ⟨s, hs, rfl⟩
  · refine im_xUn h1 (br_f im_10 ?_)
    unfold wpY_file; dsimp only
    exact im_yUn h1 (br_f im_10 ⟨rfl, R⟩)
  refine im_xUk hs (br_t rfl ?_)
  rcases im_num v2 with h2 | ⟨j, hj, rfl⟩
  · have y0 : wpY_file (fun r' => r' = -1 ∧ i_Rel (k + 5) (W, H, V, F, D, U) (V', W', H', T, D', F')) (V', W', H', T, D', F') (nI s) v2 := by
      unfold wpY_file; dsimp only
      exact im_yUk hs (br_t rfl (im_yUn h2 (br_f im_10 ⟨rfl, R⟩)))
    exact br_c (fun _ => y0) (fun z => br_f (im_nle3 (h2.resolve_left z)) y0)
  obtain ⟨q1, q2, q3⟩ := G s hs
  have ns : (nI s).toNatClampNeg = s := nI_clamp (by omega)
  have n4 : (nI (4 + s)).toNatClampNeg = 4 + s := nI_clamp (by omega)
  have i4 : vp_in (nI s) 4 := vp_in_nI hs (by decide)
  have i8 : vp_in (nI (4 + s)) 8 := vp_in_nI (by omega) (by decide)
  have i9 : vp_in (nI (4 + s)) 9 := vp_in_nI (by omega) (by decide)
  refine br_f (nI_pos (by omega)) (br_t (nI_le (b := 3) (by omega) (by decide)) ?_)
  rw [im_e4, n4, ns]
  rcases A (4 + s) (by omega) with ⟨e1, e2, e3⟩ | ⟨w, h, p, bd, X, Y⟩
  · have y0 : wpY_file (fun r' => r' = 0 ∧ i_Rel (k + 5) (W, H, V, F, D, U) (V', W', H', T, D', F')) (V', W', H', T, D', F') (nI s) (nI j) := by
      unfold wpY_file; dsimp only
      exact im_yUk hs (br_t rfl (im_yUk hj (br_t rfl (nm_r (im_e4 s) (br_c (fun _ => im_yTn (by omega) e3 ⟨rfl, R⟩) (fun _ => im_yTn (by omega) e3 ⟨rfl, R⟩))))))
    exact im_xFfN hs e1 (br_c (fun _ => br_t rfl y0) (fun _ => br_f im_m2 y0))
  have w8 := bd.2.1
  by_cases d0 : D s = 0
  · have d0' : D' (nI (4 + s)).toNatClampNeg = 0 := by rw [n4, ← q2]; exact d0
    refine im_xFfP hs X.1 bd.1 w8 d0 ?_
    rcases im_q4 hj with e | e | e | e
    · rw [e]
      refine br_t rfl (br_f (by decide) (br_f (by decide) ?_))
      unfold wpY_file; dsimp only
      exact im_yUk hs (br_t rfl (im_yUk (s := 0) (by decide) (br_t rfl (nm_r (im_e4 s) (br_t rfl (im_yTp (by omega) Y.1 ⟨i9, br_t d0' ⟨rfl, R⟩⟩))))))
    · rw [e]
      refine br_f (by decide) (br_t rfl (br_t rfl ⟨i4, ?_⟩))
      unfold wpY_file; dsimp only
      exact im_yUk hs (br_t rfl (im_yUk (s := 1) (by decide) (br_t rfl (nm_r (im_e4 s) (br_f (by decide) (im_yTp (by omega) Y.1 ⟨i9, br_t d0' (br_t rfl ⟨i9, by rw [n4]; exact q1.symm, R⟩)⟩))))))
    · rw [e]
      refine br_f (by decide) (br_t rfl (br_f (by decide) (br_t rfl ⟨i8, ?_⟩)))
      unfold wpY_file; dsimp only
      exact im_yUk hs (br_t rfl (im_yUk (s := 2) (by decide) (br_t rfl (nm_r (im_e4 s) (br_f (by decide) (im_yTp (by omega) Y.1 ⟨i9, br_t d0' (br_f (by decide) (br_t rfl ⟨i9, by rw [n4]; exact Y.2.1.trans X.1.symm, R⟩))⟩))))))
    · rw [e]
      refine br_f (by decide) (br_t rfl (br_f (by decide) (br_f (by decide) ⟨i8, ?_⟩)))
      unfold wpY_file; dsimp only
      exact im_yUk hs (br_t rfl (im_yUk (s := 3) (by decide) (br_t rfl (nm_r (im_e4 s) (br_f (by decide) (im_yTp (by omega) Y.1 ⟨i9, br_t d0' (br_f (by decide) (br_f (by decide) ⟨i9, by rw [n4]; exact Y.2.2.1.trans X.2.1.symm, R⟩))⟩))))))
  · have d0' : ¬ D' (nI (4 + s)).toNatClampNeg = 0 := by rw [n4, ← q2]; exact d0
    refine im_xFfB hs X.1 bd.1 w8 d0 (br_c (fun z => br_f (by decide) (br_t rfl ?_)) (fun z => br_f im_m3 ?_))
    · unfold wpY_file; dsimp only
      exact im_yUk hs (br_t rfl (im_yUk hj (br_t rfl (nm_r (im_e4 s) (br_t z (im_yTp (by omega) Y.1 ⟨i9, br_f d0' ⟨rfl, R⟩⟩))))))
    · unfold wpY_file; dsimp only
      exact im_yUk hs (br_t rfl (im_yUk hj (br_t rfl (nm_r (im_e4 s) (br_f z (im_yTp (by omega) Y.1 ⟨i9, br_f d0' ⟨rfl, R⟩⟩))))))
theorem i_vc_same {k : Nat} {u : SX} {v : SY} (I : i_Rel k u v) (hk : k + 5 ≤ 2560) (v1 : Int32) (v2 : Int32) : wpX_same (fun r => wpY_same (fun r' => r' = r ∧ i_Rel (k + 5) u v) v v1 v2) u v1 v2 := by
  obtain ⟨W, H, V, F, D, U⟩ := u
  obtain ⟨V', W', H', T, D', F'⟩ := v
  have R : i_Rel (k + 5) (W, H, V, F, D, U) (V', W', H', T, D', F') := I
  have A : im_All W H V V' W' H' T := I.1
  unfold wpX_same; dsimp only
  rcases im_num v1 with h1 | ⟨a, ha, rfl⟩
  · refine im_xUn h1 (br_f im_10 ?_)
    unfold wpY_same; dsimp only
    exact im_yUn h1 (br_f im_10 ⟨rfl, R⟩)
  rcases im_num v2 with h2 | ⟨b, hb, rfl⟩
  · refine im_xUk ha (br_t rfl (im_xUn h2 (br_f im_10 ?_)))
    unfold wpY_same; dsimp only
    exact im_yUk ha (br_t rfl (im_yUn h2 (br_f im_10 ⟨rfl, R⟩)))
  refine im_xUk ha (br_t rfl (im_xUk hb (br_t rfl ?_)))
  rcases A a (by omega) with ⟨e1, e2, e3⟩ | ⟨w, h, p, bd, X, Y⟩
  · refine im_xAbT (by omega) e1 (br_f im_10 ?_)
    unfold wpY_same; dsimp only
    exact im_yUk ha (br_t rfl (im_yUk hb (br_t rfl (im_yTn (by omega) e3 ⟨rfl, R⟩))))
  have bd1 := bd
  obtain ⟨w0, w8, h0, h8⟩ := bd1
  refine im_xAbF (by omega) (by rw [X.1]; exact nI_ne0 w0 (by omega)) (br_t rfl ?_)
  rcases A b (by omega) with ⟨e1, e2, e3⟩ | ⟨w', h', p', bd', X', Y'⟩
  · refine im_xAbT (by omega) e1 (br_f im_10 ?_)
    unfold wpY_same; dsimp only
    exact im_yUk ha (br_t rfl (im_yUk hb (br_t rfl (im_yTp (by omega) Y.1 (im_yTn (by omega) e3 ⟨rfl, R⟩)))))
  have bd2 := bd'
  obtain ⟨w0', w8', h0', h8'⟩ := bd2
  refine im_xAbF (by omega) (by rw [X'.1]; exact nI_ne0 w0' (by omega)) (br_t rfl ?_)
  have a8 : vp_in (nI a) 8 := vp_in_nI (by omega) (by decide)
  have b8 : vp_in (nI b) 8 := vp_in_nI (by omega) (by decide)
  have a9 : vp_in (nI a) 9 := vp_in_nI (by omega) (by decide)
  have b9 : vp_in (nI b) 9 := vp_in_nI (by omega) (by decide)
  have ca : (nI a).toNatClampNeg = a := nI_clamp (by omega)
  have cb : (nI b).toNatClampNeg = b := nI_clamp (by omega)
  rw [ca, cb, X.1, X.2.1, X'.1, X'.2.1]
  have yw : W' (nI a).toNatClampNeg = nI w := by rw [ca]; exact Y.2.1
  have yw' : W' (nI b).toNatClampNeg = nI w' := by rw [cb]; exact Y'.2.1
  have yh : H' (nI a).toNatClampNeg = nI h := by rw [ca]; exact Y.2.2.1
  have yh' : H' (nI b).toNatClampNeg = nI h' := by rw [cb]; exact Y'.2.2.1
  by_cases ew : w = w'
  · subst ew
    by_cases eh : h = h'
    · subst eh
      refine ⟨a8, b8, br_t rfl ⟨a8, b8, br_t rfl (nm_r (im_e64 a) (nm_r (im_e64 b) (im_xPl (by omega) X.1 X.2.1 ?_)))⟩⟩
      have Z : ∀ r : Int32, ((r = 1 ∧ ∀ y x, y < h → x < w → p y x = p' y x) ∨ (r = 0 ∧ ∃ y x, y < h ∧ x < w ∧ p y x ≠ p' y x)) → ∃ n, wX_same_88 (fun r => wpY_same (fun r' => r' = r ∧ i_Rel (k + 5) (W, H, V, F, D, U) (V', W', H', T, D', F')) (V', W', H', T, D', F') (nI a) (nI b)) (nI (64 * a)) (nI (64 * b)) (nI (h * w)) W H V F D U n 0 := by
        intro r hr
        refine im_xSm (r := r) (by omega) (by omega) (im_64b w8 h8) ?_ ?_
        · rcases hr with ⟨z, g⟩ | ⟨z, y, x, hy, hx, ne⟩
          · refine Or.inl ⟨z, fun j hj => ?_⟩
            have jw : j % w < w := Nat.mod_lt _ w0
            have jh : j / w < h := Nat.div_lt_of_lt_mul (by rw [Nat.mul_comm]; exact hj)
            have ej : j / w * w + j % w = j := Nat.div_add_mod' j w
            have q := (X.2.2 _ _ jh jw).trans ((g _ _ jh jw).trans (X'.2.2 _ _ jh jw).symm)
            rw [ej] at q
            exact q
          · refine Or.inr ⟨z, y * w + x, im_ix hy hx, ?_⟩
            rw [X.2.2 y x hy hx, X'.2.2 y x hy hx]
            exact ne
        · unfold wpY_same; dsimp only
          rw [yw, yw', yh, yh']
          refine im_yUk ha (br_t rfl (im_yUk hb (br_t rfl (im_yTp (by omega) Y.1 (im_yTp (by omega) Y'.1 ⟨a9, b9, br_t rfl ⟨a9, b9, br_t rfl (im_yS71 (r := r) (by omega) (by omega) w8 h8 Y.2.1 Y.2.2.1 ?_ ⟨rfl, R⟩)⟩⟩)))))
          rcases hr with ⟨z, g⟩ | ⟨z, y, x, hy, hx, ne⟩
          · exact Or.inl ⟨z, fun y x hy hx => (Y.2.2.2 y x hy hx).trans ((g y x hy hx).trans (Y'.2.2.2 y x hy hx).symm)⟩
          · refine Or.inr ⟨z, y, x, hy, hx, ?_⟩
            rw [Y.2.2.2 y x hy hx, Y'.2.2.2 y x hy hx]
            exact ne
      by_cases E : ∀ y x, y < h → x < w → p y x = p' y x
      · exact Z 1 (Or.inl ⟨rfl, E⟩)
      · refine Z 0 (Or.inr ⟨rfl, Classical.byContradiction (fun N => E (fun y x hy hx => Classical.byContradiction (fun ne => N ⟨y, x, hy, hx, ne⟩)))⟩)
    · have nh : ¬ nI h = nI h' := fun z => eh ((nI_eq (by omega) (by omega)).mp z)
      refine ⟨a8, b8, br_t rfl ⟨a8, b8, br_f nh ?_⟩⟩
      unfold wpY_same; dsimp only
      rw [yw, yw', yh, yh']
      exact im_yUk ha (br_t rfl (im_yUk hb (br_t rfl (im_yTp (by omega) Y.1 (im_yTp (by omega) Y'.1 ⟨a9, b9, br_t rfl ⟨a9, b9, br_f nh ⟨rfl, R⟩⟩⟩)))))
  · have nw : ¬ nI w = nI w' := fun z => ew ((nI_eq (by omega) (by omega)).mp z)
    refine ⟨a8, b8, br_f nw ?_⟩
    unfold wpY_same; dsimp only
    rw [yw, yw', yh, yh']
    exact im_yUk ha (br_t rfl (im_yUk hb (br_t rfl (im_yTp (by omega) Y.1 (im_yTp (by omega) Y'.1 ⟨a9, b9, br_f nw ⟨rfl, R⟩⟩)))))
end
