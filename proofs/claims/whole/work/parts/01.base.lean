/-! rows of the kit (pasted), then the pictures of one slot, the relation, and fills of arrays -/
theorem pk_us {f : Nat → Int32} {k : Nat} {x : Int32} : upd f k x k = x := if_pos rfl
theorem pk_un {f : Nat → Int32} {k j : Nat} {x : Int32} (h : j ≠ k) : upd f k x j = f j := if_neg h
theorem pk_sub {a b : Nat} (h : b ≤ a) : nI a - nI b = nI (a - b) := by
  obtain ⟨c, rfl⟩ : ∃ c, a = c + b := ⟨a - b, by omega⟩
  rw [← nI_add, Int32.add_sub_cancel, Nat.add_sub_cancel]
theorem pk_mul (a b : Nat) : nI a * nI b = nI (a * b) := (Int32.ofNat_mul a b).symm
theorem pk_div {a d : Nat} (ha : a < 2 ^ 31) (h0 : 0 < d) (hd : d < 2 ^ 31) : nI a / nI d = nI (a / d) := by
  apply Int32.toInt_inj.mp
  rw [lg_idiv_nonneg (by rw [nI_toInt ha]; omega) (by rw [nI_toInt hd]; omega), nI_toInt ha, nI_toInt hd, nI_toInt (Nat.lt_of_le_of_lt (Nat.div_le_self a d) ha)]
  first | rfl | exact (Int.natCast_ediv _ _).symm
theorem pk_rem {a d : Nat} (ha : a < 2 ^ 31) (h0 : 0 < d) (hd : d < 2 ^ 31) : nI a - nI a / nI d * nI d = nI (a % d) := by
  rw [pk_div ha h0 hd, pk_mul, pk_sub (Nat.div_mul_le_self a d)]
  exact congrArg nI (by have := Nat.div_add_mod' a d; omega)
theorem pk_ix (x : Int32) {n : Nat} (hn : n < 2 ^ 31) : x < 0 ∨ nI n ≤ x ∨ ∃ j : Nat, j < n ∧ x = nI j := by
  by_cases h : x < 0
  · exact Or.inl h
  · obtain ⟨j, hj, rfl⟩ := nI_of h
    by_cases h2 : j < n
    · exact Or.inr (Or.inr ⟨j, h2, rfl⟩)
    · exact Or.inr (Or.inl (nI_le (by omega) hj))
theorem pk_le {x y : Int32} {A B : Prop} (a b : Nat) (f : a ≤ b → A) (g : b < a → B) (hx : x = nI a := by rfl) (hy : y = nI b := by rfl) (ha : a < 2 ^ 31 := by omega) (hb : b < 2 ^ 31 := by omega) : (x ≤ y → A) ∧ (¬ x ≤ y → B) := by
  subst hx hy
  rw [nI_leI ha hb]
  exact ⟨f, fun z => g (by omega)⟩
theorem pk_lt {x y : Int32} {A B : Prop} (a b : Nat) (f : a < b → A) (g : b ≤ a → B) (hx : x = nI a := by rfl) (hy : y = nI b := by rfl) (ha : a < 2 ^ 31 := by omega) (hb : b < 2 ^ 31 := by omega) : (x < y → A) ∧ (¬ x < y → B) := by
  subst hx hy
  rw [nI_ltI ha hb]
  exact ⟨f, fun z => g (by omega)⟩
theorem pk_eq {x y : Int32} {A B : Prop} (a b : Nat) (f : a = b → A) (g : a ≠ b → B) (hx : x = nI a := by rfl) (hy : y = nI b := by rfl) (ha : a < 2 ^ 31 := by omega) (hb : b < 2 ^ 31 := by omega) : (x = y → A) ∧ (¬ x = y → B) := by
  subst hx hy
  rw [nI_eq ha hb]
  exact ⟨f, g⟩
theorem pk_in {x : Int32} (n N : Nat) (h : n < N) (hx : x = nI n := by rfl) (hN : N < 2 ^ 31 := by omega) : vp_in x N := by
  subst hx
  exact vp_in_nI h hN
theorem pk_cl {x : Int32} (n : Nat) (hx : x = nI n := by rfl) (h : n < 2 ^ 31 := by omega) : x.toNatClampNeg = n := by
  subst hx
  exact nI_clamp h
theorem pk_tn {n : Nat} (h : n < 2 ^ 32) : (nI n).toBitVec.toNat = n := Nat.mod_eq_of_lt h
theorem pk_and (x : Int32) {m : Int32} (k : Nat) (hm : m.toBitVec.toNat = 2 ^ k - 1) : x &&& m = nI (x.toBitVec.toNat % 2 ^ k) := by
  apply Int32.toBitVec_inj.mp
  apply BitVec.eq_of_toNat_eq
  rw [Int32.toBitVec_and, BitVec.toNat_and, hm, Nat.and_two_pow_sub_one_eq_mod]
  show _ = (BitVec.ofNat 32 _).toNat
  rw [BitVec.toNat_ofNat]
  exact (Nat.mod_eq_of_lt (Nat.lt_of_le_of_lt (Nat.mod_le _ _) x.toBitVec.isLt)).symm
theorem pk_andE (x : Int32) {m : Int32} (k : Nat) (hm : m.toBitVec.toNat = 2 ^ k - 1) : ∃ j : Nat, j < 2 ^ k ∧ x &&& m = nI j := ⟨_, Nat.mod_lt _ (Nat.two_pow_pos k), pk_and x k hm⟩
/-! numbers -/
theorem im_64 : (64 : Int32) = nI 64 := rfl
theorem im_8 : (8 : Int32) = nI 8 := rfl
theorem im_4 : (4 : Int32) = nI 4 := rfl
theorem im_1 : (1 : Int32) = nI 1 := rfl
theorem im_512 : (512 : Int32) = nI 512 := rfl
theorem im_ix {y x w h : Nat} (hy : y < h) (hx : x < w) : y * w + x < h * w := by
  have e : (y + 1) * w = y * w + w := by rw [Nat.add_mul, Nat.one_mul]
  have f : (y + 1) * w ≤ h * w := Nat.mul_le_mul_right w hy
  omega
theorem im_64b {w h : Nat} (hw : w ≤ 8) (hh : h ≤ 8) : h * w ≤ 64 := Nat.mul_le_mul hh hw
theorem im_dv {y x w : Nat} (hx : x < w) : (y * w + x) / w = y := by
  rw [Nat.mul_comm, Nat.mul_add_div (by omega), Nat.div_eq_of_lt hx, Nat.add_zero]
theorem im_md {y x w : Nat} (hx : x < w) : (y * w + x) % w = x := by
  rw [Nat.mul_comm, Nat.mul_add_mod, Nat.mod_eq_of_lt hx]
theorem im_inj {y x y' x' w : Nat} (hx : x < w) (hx' : x' < w) (e : y * w + x = y' * w + x') : y = y' ∧ x = x' := by
  have a := im_dv (y := y) hx
  have b := im_md (y := y) hx
  rw [e] at a b
  rw [im_dv hx'] at a
  rw [im_md hx'] at b
  exact ⟨a.symm, b.symm⟩
theorem im_vb0 : vp_nar .boolean 0 = 0 := by decide
theorem im_vb1 : vp_nar .boolean 1 = 1 := by decide
theorem im_vb {z : Int32} (h : z = 0 ∨ z = 1) : vp_nar .boolean z = z := by
  rcases h with rfl | rfl <;> decide
theorem im_nb {z : Int32} (h : z = 0 ∨ z = 1) : narrow .boolean (.int z) = .int z := by
  rcases h with rfl | rfl <;> rfl
/-- a store at an index that is a natural -/
theorem im_st {e : Int32} {N : Nat} {a : Nat → Int32} {c : Int32} {P : (Nat → Int32) → Prop} (n : Nat) (he : e = nI n) (hn : n < N) (hN : N < 2 ^ 31) (h : P (upd a n c)) :
    vp_in e N ∧ ∀ a' : Nat → Int32, a' = upd a e.toNatClampNeg c → P a' := by
  subst he
  exact ⟨vp_in_nI hn hN, fun a' ea => by rw [ea, nI_clamp (by omega)]; exact h⟩
/-! fills: V' is V but for i places from b on, which hold g -/
def im_Fill (b i : Nat) (g : Nat → Int32) (V V' : Nat → Int32) : Prop :=
  (∀ k, k < i → V' (b + k) = g k) ∧ (∀ j, (j < b ∨ b + i ≤ j) → V' j = V j)
theorem im_fill0 (b : Nat) (g V : Nat → Int32) : im_Fill b 0 g V V :=
  ⟨fun k h => absurd h (Nat.not_lt_zero k), fun _ _ => rfl⟩
theorem im_fill1 {b i : Nat} {g V V' : Nat → Int32} (F : im_Fill b i g V V') {c : Int32} (hc : c = g i) {j : Nat} (hj : j = b + i) : im_Fill b (i + 1) g V (upd V' j c) := by
  subst hj
  refine ⟨fun k hk => ?_, fun j hj => ?_⟩
  · by_cases e : k = i
    · rw [e, pk_us, hc]
    · rw [pk_un (by omega)]; exact F.1 k (by omega)
  · rw [pk_un (by omega)]; exact F.2 j (by omega)
theorem im_fillC {b i m : Nat} {g g' V V1 V2 : Nat → Int32} (F : im_Fill b i g V V1) (G : im_Fill (b + i) m g' V1 V2) (e : ∀ j, j < m → g' j = g (i + j)) : im_Fill b (i + m) g V V2 := by
  refine ⟨fun k hk => ?_, fun j hj => ?_⟩
  · by_cases h : k < i
    · rw [G.2 (b + k) (by omega)]; exact F.1 k h
    · have q := G.1 (k - i) (by omega)
      have e2 : b + i + (k - i) = b + k := by omega
      have e3 : i + (k - i) = k := by omega
      rw [e2] at q
      rw [q, e _ (by omega), e3]
  · rw [G.2 j (by omega)]; exact F.2 j (by omega)
/-! grids: rows of eight places; the rows above y, and x places of row y, hold p -/
def im_Grid (b w y x : Nat) (p : Nat → Nat → Int32) (V V' : Nat → Int32) : Prop :=
  (∀ r c, c < w → (r < y ∨ (r = y ∧ c < x)) → V' (b + (8 * r + c)) = p r c) ∧ (∀ j, (j < b ∨ b + 64 ≤ j) → V' j = V j)
theorem im_grid0 (b w : Nat) (p : Nat → Nat → Int32) (V : Nat → Int32) : im_Grid b w 0 0 p V V :=
  ⟨fun r c _ h => by omega, fun _ _ => rfl⟩
theorem im_grid1 {b w y x : Nat} {p : Nat → Nat → Int32} {V V' : Nat → Int32} (F : im_Grid b w y x p V V') (hw : w ≤ 8) (hy : y < 8) (hx : x < w) {c : Int32} (hc : c = p y x) {j : Nat} (hj : j = b + (8 * y + x)) :
    im_Grid b w y (x + 1) p V (upd V' j c) := by
  subst hj
  refine ⟨fun r q hq h => ?_, fun j hj => ?_⟩
  · by_cases e : r = y ∧ q = x
    · rw [e.1, e.2, pk_us, hc]
    · rw [pk_un (by omega)]; exact F.1 r q hq (by omega)
  · rw [pk_un (by omega)]; exact F.2 j hj
theorem im_gridR {b w y : Nat} {p : Nat → Nat → Int32} {V V' : Nat → Int32} (F : im_Grid b w y w p V V') : im_Grid b w (y + 1) 0 p V V' :=
  ⟨fun r c hc h => F.1 r c hc (by omega), F.2⟩
/-! one slot of each side: w columns, h rows, the value p y x at (x, y) -/
def im_Bd (w h : Nat) : Prop := 0 < w ∧ w ≤ 8 ∧ 0 < h ∧ h ≤ 8
def im_XP (s w h : Nat) (p : Nat → Nat → Int32) (W H V : Nat → Int32) : Prop :=
  W s = nI w ∧ H s = nI h ∧ ∀ y x, y < h → x < w → V (64 * s + (y * w + x)) = p y x
def im_YP (s w h : Nat) (p : Nat → Nat → Int32) (V W H T : Nat → Int32) : Prop :=
  T s = 1 ∧ W s = nI w ∧ H s = nI h ∧ ∀ y x, y < h → x < w → V (64 * s + (8 * y + x)) = p y x
def im_Sl (s : Nat) (W H V V' W' H' T' : Nat → Int32) : Prop :=
  (W s = 0 ∧ H s = 0 ∧ T' s = 0) ∨ ∃ w h p, im_Bd w h ∧ im_XP s w h p W H V ∧ im_YP s w h p V' W' H' T'
def im_All (W H V V' W' H' T' : Nat → Int32) : Prop := ∀ s, s < 8 → im_Sl s W H V V' W' H' T'
def im_FD (F D D' F' : Nat → Int32) : Prop := ∀ f, f < 4 → F f = F' (4 + f) ∧ D f = D' (4 + f) ∧ (D f = 0 ∨ D f = 1)
/-! what lies outside of slot s stays -/
def im_XF (s : Nat) (W H V W2 H2 V2 : Nat → Int32) : Prop :=
  (∀ t, t ≠ s → W2 t = W t ∧ H2 t = H t) ∧ ∀ j, (j < 64 * s ∨ 64 * s + 64 ≤ j) → V2 j = V j
def im_YF (s : Nat) (V W H T V2 W2 H2 T2 : Nat → Int32) : Prop :=
  (∀ t, t ≠ s → t < 8 → W2 t = W t ∧ H2 t = H t ∧ T2 t = T t) ∧ ∀ j, (j < 64 * s ∨ 64 * s + 64 ≤ j) → j < 512 → V2 j = V j
theorem im_put {s w h : Nat} {p : Nat → Nat → Int32} {W H V V' W' H' T' W2 H2 V2 V3 W3 H3 T3 : Nat → Int32} (A : im_All W H V V' W' H' T') (b : im_Bd w h)
    (x : im_XP s w h p W2 H2 V2) (xf : im_XF s W H V W2 H2 V2) (y : im_YP s w h p V3 W3 H3 T3) (yf : im_YF s V' W' H' T' V3 W3 H3 T3) : im_All W2 H2 V2 V3 W3 H3 T3 := by
  intro t ht
  by_cases e : t = s
  · subst e
    exact Or.inr ⟨w, h, p, b, x, y⟩
  · obtain ⟨a1, a2⟩ := xf.1 t e
    obtain ⟨b1, b2, b3⟩ := yf.1 t e ht
    rcases A t ht with ⟨c1, c2, c3⟩ | ⟨w0, h0, p0, bd, ⟨x1, x2, x3⟩, ⟨y1, y2, y3, y4⟩⟩
    · exact Or.inl ⟨a1.trans c1, a2.trans c2, b3.trans c3⟩
    · have k1 := bd.2.1
      have k2 := bd.2.2.2
      refine Or.inr ⟨w0, h0, p0, bd, ⟨a1.trans x1, a2.trans x2, fun y x hy hx => ?_⟩, ⟨b3.trans y1, b1.trans y2, b2.trans y3, fun y x hy hx => ?_⟩⟩
      · have i1 := im_ix hy hx
        have i2 := im_64b k1 k2
        rw [xf.2 _ (by omega)]
        exact x3 y x hy hx
      · rw [yf.2 _ (by omega) (by omega)]
        exact y4 y x hy hx
/-- a filled slot of X -/
theorem im_xpF {s w h n : Nat} {p : Nat → Nat → Int32} {g V V' : Nat → Int32} (F : im_Fill (64 * s) n g V V') (hn : h * w ≤ n) (e : ∀ y x, y < h → x < w → g (y * w + x) = p y x) :
    ∀ y x, y < h → x < w → V' (64 * s + (y * w + x)) = p y x := fun y x hy hx =>
  (F.1 _ (Nat.lt_of_lt_of_le (im_ix hy hx) hn)).trans (e y x hy hx)
/-- a filled grid of Y -/
theorem im_ypG {s w h : Nat} {p : Nat → Nat → Int32} {V V' : Nat → Int32} (F : im_Grid (64 * s) w h 0 p V V') :
    ∀ y x, y < h → x < w → V' (64 * s + (8 * y + x)) = p y x := fun y x hy hx => F.1 y x hx (Or.inl hy)
/-- quarter turns of a picture -/
def im_rot (t : Nat × Nat × (Nat → Nat → Int32)) : Nat × Nat × (Nat → Nat → Int32) :=
  (t.2.1, t.1, fun y x => t.2.2 (t.2.1 - 1 - x) y)
def im_rots (t : Nat × Nat × (Nat → Nat → Int32)) : Nat → Nat × Nat × (Nat → Nat → Int32)
  | 0 => t
  | q + 1 => im_rot (im_rots t q)
theorem im_rotB {t : Nat × Nat × (Nat → Nat → Int32)} (b : im_Bd t.1 t.2.1) : ∀ q, im_Bd (im_rots t q).1 (im_rots t q).2.1
  | 0 => b
  | q + 1 => have c := im_rotB b q
    ⟨c.2.2.1, c.2.2.2, c.1, c.2.1⟩
