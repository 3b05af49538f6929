/-! the relation; cases of arguments -/
/-- each of the eight slots is not there on both sides, or holds one picture on both; formats and damage of the files are the same -/
def i_Rel (_ : Nat) (u : SX) (v : SY) : Prop :=
  im_All u.1 u.2.1 u.2.2.1 v.1 v.2.1 v.2.2.1 v.2.2.2.1 ∧ im_FD u.2.2.2.1 u.2.2.2.2.1 v.2.2.2.2.1 v.2.2.2.2.2
theorem i_up {k : Nat} {u : SX} {v : SY} (h : i_Rel k u v) : i_Rel (k + 5) u v := h
theorem i_vc0 : wpX_init (fun u => wpY_init (fun v => i_Rel 0 u v)) := by
  unfold wpX_init wpY_init
  exact nm_e ⟨fun s hs => Or.inl ⟨rfl, rfl, rfl⟩, fun f hf => ⟨rfl, rfl, Or.inl rfl⟩⟩
theorem im_num (x : Int32) : (x < 0 ∨ nI 4 ≤ x) ∨ ∃ s, s < 4 ∧ x = nI s := by
  rcases pk_ix x (n := 4) (by decide) with h | h | h
  · exact Or.inl (Or.inl h)
  · exact Or.inl (Or.inr h)
  · exact Or.inr h
theorem im_side (x : Int32) (n : Nat) (hn : n < 2 ^ 31) : (x < 1 ∨ ¬ x ≤ nI n) ∨ ∃ w, 0 < w ∧ w ≤ n ∧ x = nI w := by
  by_cases h : x < 1
  · exact Or.inl (Or.inl h)
  · have h0 : ¬ x < 0 := fun z => h (Int32.lt_trans z (by decide))
    obtain ⟨j, hj, rfl⟩ := nI_of h0
    have j1 : ¬ j < 1 := fun z => h (nI_lt (b := 1) z (by decide))
    by_cases h2 : j ≤ n
    · exact Or.inr ⟨j, by omega, h2, rfl⟩
    · exact Or.inl (Or.inr (nI_ge (by omega) hj))
theorem im_plc (x y : Int32) {w h : Nat} (w8 : w ≤ 8) (h8 : h ≤ 8) : (x < 0 ∨ nI w ≤ x ∨ y < 0 ∨ nI h ≤ y) ∨ ∃ a b, a < w ∧ b < h ∧ x = nI a ∧ y = nI b := by
  rcases pk_ix x (n := w) (by omega) with z | z | ⟨a, ha, ea⟩
  · exact Or.inl (Or.inl z)
  · exact Or.inl (Or.inr (Or.inl z))
  · rcases pk_ix y (n := h) (by omega) with z | z | ⟨b, hb, eb⟩
    · exact Or.inl (Or.inr (Or.inr (Or.inl z)))
    · exact Or.inl (Or.inr (Or.inr (Or.inr z)))
    · exact Or.inr ⟨a, b, ha, hb, ea, eb⟩
theorem im_n1 {w : Nat} (h : 0 < w) (h8 : w ≤ 64) : ¬ nI w < 1 := nI_nlt (a := w) (b := 1) h (by omega)
theorem im_m1 : ¬ (-1 : Int32) = 0 := by decide
theorem im_m2 : ¬ (-2 : Int32) = 0 := by decide
theorem im_m3 : ¬ (-3 : Int32) = 0 := by decide
theorem im_yTn {A B : Prop} {T : Nat → Int32} {s : Nat} (hs : s < 9) (e : T s = 0) (a : A) : vp_in (nI s) 9 ∧ ((T (nI s).toNatClampNeg = 0 → A) ∧ (¬ T (nI s).toNatClampNeg = 0 → B)) :=
  ⟨vp_in_nI hs (by decide), br_t (by rw [nI_clamp (by omega)]; exact e) a⟩
theorem im_yTp {A B : Prop} {T : Nat → Int32} {s : Nat} (hs : s < 9) (e : T s = 1) (b : B) : vp_in (nI s) 9 ∧ ((T (nI s).toNatClampNeg = 0 → A) ∧ (¬ T (nI s).toNatClampNeg = 0 → B)) :=
  ⟨vp_in_nI hs (by decide), br_f (by rw [nI_clamp (by omega), e]; exact im_10) b⟩
theorem im_xfU {s : Nat} {W H V V2 : Nat → Int32} {a b : Int32} (h : ∀ j, (j < 64 * s ∨ 64 * s + 64 ≤ j) → V2 j = V j) : im_XF s W H V (upd W s a) (upd H s b) V2 :=
  ⟨fun _ ht => ⟨pk_un ht, pk_un ht⟩, h⟩
