section
/-! rows taken from kit/rows (pk_, ek_), then this claim's own arithmetic (pg_) -/
theorem pk_us {f : Nat → Int32} {k : Nat} {x : Int32} : upd f k x k = x := if_pos rfl
theorem pk_un {f : Nat → Int32} {k j : Nat} {x : Int32} (h : j ≠ k) : upd f k x j = f j := if_neg h
theorem pk_sub {a b : Nat} (h : b ≤ a) : nI a - nI b = nI (a - b) := by
  obtain ⟨c, rfl⟩ : ∃ c, a = c + b := ⟨a - b, by omega⟩
  rw [← nI_add, Int32.add_sub_cancel, Nat.add_sub_cancel]
theorem pk_m1 (n : Nat) : nI (n + 1) + (-1) = nI n := by
  rw [← nI_1, Int32.add_assoc, show (1 : Int32) + (-1) = 0 from rfl, Int32.add_zero]
theorem pk_mul (a b : Nat) : nI a * nI b = nI (a * b) := (Int32.ofNat_mul a b).symm
theorem pk_div {a d : Nat} (ha : a < 2 ^ 31) (h0 : 0 < d) (hd : d < 2 ^ 31) : nI a / nI d = nI (a / d) := by
  apply Int32.toInt_inj.mp
  rw [lg_idiv_nonneg (by rw [nI_toInt ha]; omega) (by rw [nI_toInt hd]; omega), nI_toInt ha, nI_toInt hd, nI_toInt (Nat.lt_of_le_of_lt (Nat.div_le_self a d) ha)]
  first | rfl | exact (Int.natCast_ediv _ _).symm
theorem pk_rem {a d : Nat} (ha : a < 2 ^ 31) (h0 : 0 < d) (hd : d < 2 ^ 31) : nI a - nI a / nI d * nI d = nI (a % d) := by
  rw [pk_div ha h0 hd, pk_mul, pk_sub (Nat.div_mul_le_self a d)]
  exact congrArg nI (by have := Nat.div_add_mod' a d; omega)
theorem pk_sub_toInt {a b : Nat} (ha : a < 2 ^ 30) (hb : b < 2 ^ 30) : (nI a - nI b).toInt = (a : Int) - b := by
  rw [Int32.toInt_sub, nI_toInt (by omega), nI_toInt (by omega)]
  exact Int.bmod_eq_of_le (by omega) (by omega)
theorem pk_le {x y : Int32} {A B : Prop} (a b : Nat) (f : a ≤ b → A) (g : b < a → B) (hx : x = nI a := by rfl) (hy : y = nI b := by rfl) (ha : a < 2 ^ 31 := by omega) (hb : b < 2 ^ 31 := by omega) : (x ≤ y → A) ∧ (¬ x ≤ y → B) := by
  subst hx hy
  rw [nI_leI ha hb]
  exact ⟨f, fun z => g (by omega)⟩
theorem pk_lt {x y : Int32} {A B : Prop} (a b : Nat) (f : a < b → A) (g : b ≤ a → B) (hx : x = nI a := by rfl) (hy : y = nI b := by rfl) (ha : a < 2 ^ 31 := by omega) (hb : b < 2 ^ 31 := by omega) : (x < y → A) ∧ (¬ x < y → B) := by
  subst hx hy
  rw [nI_ltI ha hb]
  exact ⟨f, fun z => g (by omega)⟩
theorem pk_eq {x y : Int32} {A B : Prop} (a b : Nat) (f : a = b → A) (g : a ≠ b → B) (hx : x = nI a := by rfl) (hy : y = nI b := by rfl) (ha : a < 2 ^ 31 := by omega) (hb : b < 2 ^ 31 := by omega) : (x = y → A) ∧ (¬ x = y → B) := by
  subst hx hy
  rw [nI_eq ha hb]
  exact ⟨f, g⟩
theorem pk_in {x : Int32} (n N : Nat) (h : n < N) (hx : x = nI n := by rfl) (hN : N < 2 ^ 31 := by omega) : vp_in x N := by
  subst hx
  exact vp_in_nI h hN
theorem pk_cl {x : Int32} (n : Nat) (hx : x = nI n := by rfl) (h : n < 2 ^ 31 := by omega) : x.toNatClampNeg = n := by
  subst hx
  exact nI_clamp h
theorem pk_loop {σ : Type} (W : Nat → Nat → σ → Prop) (I : Nat → σ → Prop) (e i0 : Nat) (s : σ) (hi : i0 ≤ e) (h0 : I i0 s) (hx : ∀ n s, I e s → W (n + 1) e s)
    (hs : ∀ n i s, i < e → I i s → (∀ s', I (i + 1) s' → W n (i + 1) s') → W (n + 1) i s) : ∃ n, W n i0 s :=
  ⟨e + 1, loop_i W I e hx hs (e + 1) i0 s hi (by omega) h0⟩
theorem ek_if {c d A B : Prop} (e : c ↔ d) (f : d → A) (g : ¬ d → B) : (c → A) ∧ (¬ c → B) :=
  ⟨fun z => f (e.mp z), fun z => g (fun y => z (e.mpr y))⟩
theorem ek_v {α : Sort _} {P : α → Prop} {a b : α} (e : a = b) (h : P b) : P a := e ▸ h
/-- a coordinate: 0 to 64 -/
def pg_ok (v : Int32) : Prop := 0 ≤ v ∧ v ≤ 64
theorem pg_64 : (64 : Int32).toInt = 64 := by decide
theorem pg_0T : (0 : Int32).toInt = 0 := by decide
theorem pg_m64 : (-64 : Int32).toInt = -64 := by decide
theorem pg_okT {v : Int32} : pg_ok v ↔ 0 ≤ v.toInt ∧ v.toInt ≤ 64 := by
  unfold pg_ok
  rw [Int32.le_iff_toInt_le, Int32.le_iff_toInt_le, pg_64, pg_0T]
theorem pg_okN {n : Nat} (h : n ≤ 64) : pg_ok (nI n) := pg_okT.mpr (by rw [nI_toInt (by omega)]; omega)
theorem pg_sub {a b : Int32} (ha : pg_ok a) (hb : pg_ok b) : (a - b).toInt = a.toInt - b.toInt ∧ -64 ≤ (a - b).toInt ∧ (a - b).toInt ≤ 64 := by
  rw [pg_okT] at ha hb
  have e : (a - b).toInt = a.toInt - b.toInt := by
    rw [Int32.toInt_sub]
    exact Int.bmod_eq_of_le (by omega) (by omega)
  exact ⟨e, by omega, by omega⟩
theorem pg_ib {u v : Int} (hu : -64 ≤ u ∧ u ≤ 64) (hv : -64 ≤ v ∧ v ≤ 64) : -4096 ≤ u * v ∧ u * v ≤ 4096 := by
  have h : (u * v).natAbs ≤ 64 * 64 := by
    rw [Int.natAbs_mul]
    exact Nat.mul_le_mul (by omega) (by omega)
  generalize u * v = w at h ⊢
  omega
theorem pg_mulT {p q : Int32} (hp : -64 ≤ p.toInt ∧ p.toInt ≤ 64) (hq : -64 ≤ q.toInt ∧ q.toInt ≤ 64) : (p * q).toInt = p.toInt * q.toInt := by
  have h := pg_ib hp hq
  rw [Int32.toInt_mul]
  generalize p.toInt * q.toInt = w at h ⊢
  exact Int.bmod_eq_of_le (by omega) (by omega)
theorem pg_addT {p q : Int32} (hp : -4096 ≤ p.toInt ∧ p.toInt ≤ 4096) (hq : -4096 ≤ q.toInt ∧ q.toInt ≤ 4096) : (p + q).toInt = p.toInt + q.toInt := by
  rw [Int32.toInt_add]
  exact Int.bmod_eq_of_le (by omega) (by omega)
/-- the component's test of an edge's side and the reference's: nothing wraps around -/
theorem pg_side {a b c d x y : Int32} (ha : pg_ok a) (hb : pg_ok b) (hc : pg_ok c) (hd : pg_ok d) (hx : pg_ok x) (hy : pg_ok y) :
    ((a - x) * (d - c) + (y - c) * (b - a) ≤ 0) ↔ ((b - a) * (y - c) ≤ (x - a) * (d - c)) := by
  obtain ⟨e1, b1⟩ := pg_sub ha hx
  obtain ⟨e5, b5⟩ := pg_sub hx ha
  have b2 := (pg_sub hd hc).2
  have b3 := (pg_sub hy hc).2
  have b4 := (pg_sub hb ha).2
  have m1 := pg_mulT b1 b2
  have m2 := pg_mulT b3 b4
  have m3 := pg_mulT b4 b3
  have m4 := pg_mulT b5 b2
  have i1 := pg_ib b1 b2
  have i2 := pg_ib b3 b4
  rw [← m1] at i1
  rw [← m2] at i2
  have s := pg_addT i1 i2
  have k1 : (x - a).toInt = -(a - x).toInt := by omega
  rw [k1, Int.neg_mul] at m4
  rw [Int.mul_comm] at m3
  rw [Int32.le_iff_toInt_le, Int32.le_iff_toInt_le, s, m1, m2, m3, m4, pg_0T]
  generalize (a - x).toInt * (d - c).toInt = w1
  generalize (y - c).toInt * (b - a).toInt = w2
  omega
/-- what a moved coordinate that is still one says of the step -/
theorem pg_mv {a d : Int32} (ha : pg_ok a) (h : pg_ok (a + d)) : ¬ d < -64 ∧ d ≤ 64 := by
  have e := (pg_sub h ha).2
  rw [Int32.add_comm a d, Int32.add_sub_cancel] at e
  rw [Int32.lt_iff_toInt_lt, Int32.le_iff_toInt_le, pg_64, pg_m64]
  omega
end
section
/-! the contours: F c is the first corner of contour c, F m the end -/
def pg_G (fs bc : Nat → Int32) (n m : Nat) (F : Nat → Nat) : Prop :=
  F 0 = 0 ∧ F m = n ∧ (∀ c, c ≤ m → fs c = nI (F c)) ∧ (∀ c, c < m → F c < F (c + 1)) ∧ (∀ c, c < m → ¬ bc (F c) = 0) ∧ (∀ c i, c < m → F c < i → i < F (c + 1) → bc i = 0)
theorem pg_Fle {F : Nat → Nat} {m : Nat} (h : ∀ c, c < m → F c < F (c + 1)) : ∀ d c, c + d = m → F c ≤ F m := by
  intro d
  induction d with
  | zero =>
    intro c e
    have e' : c = m := by omega
    rw [e']
    exact Nat.le_refl _
  | succ d ih =>
    intro c e
    have h1 := h c (by omega)
    have h2 := ih (c + 1) (by omega)
    omega
theorem pg_Fm {F : Nat → Nat} {m c : Nat} (h : ∀ c, c < m → F c < F (c + 1)) (hc : c ≤ m) : F c ≤ F m := pg_Fle h (m - c) c (by omega)
theorem pg_G_0 (bc : Nat → Int32) : pg_G (fun _ => 0) bc 0 0 (fun _ => 0) :=
  ⟨rfl, rfl, fun _ _ => nI_0.symm, fun _ h => absurd h (Nat.not_lt_zero _), fun _ h => absurd h (Nat.not_lt_zero _), fun _ _ h => absurd h (Nat.not_lt_zero _)⟩
theorem pg_G_clear {fs bc : Nat → Int32} {n m : Nat} {F : Nat → Nat} (h : pg_G fs bc n m F) : pg_G fs bc 0 0 F :=
  ⟨h.1, h.1, fun c hc => h.2.2.1 c (by omega), fun _ h => absurd h (Nat.not_lt_zero _), fun _ h => absurd h (Nat.not_lt_zero _), fun _ _ h => absurd h (Nat.not_lt_zero _)⟩
theorem pg_G_begin {fs bc : Nat → Int32} {n m : Nat} {F : Nat → Nat} (h : pg_G fs bc n m F) {b : Int32} (hb : ¬ b = 0) :
    pg_G (upd (upd fs m (nI n)) (m + 1) (nI (n + 1))) (upd bc n b) (n + 1) (m + 1) (fun c => if c ≤ m then F c else n + 1) := by
  obtain ⟨h0, hm, hf, hs, hb1, hb0⟩ := h
  refine ⟨?_, ?_, ?_, ?_, ?_, ?_⟩
  · show (if 0 ≤ m then F 0 else n + 1) = 0
    rw [if_pos (Nat.zero_le m), h0]
  · show (if m + 1 ≤ m then F (m + 1) else n + 1) = n + 1
    rw [if_neg (by omega)]
  · intro c hc
    show _ = nI (if c ≤ m then F c else n + 1)
    by_cases e : c = m + 1
    · rw [e, pk_us, if_neg (by omega)]
    · rw [pk_un e, if_pos (by omega)]
      by_cases e2 : c = m
      · rw [e2, pk_us, hm]
      · rw [pk_un e2]
        exact hf c (by omega)
  · intro c hc
    show (if c ≤ m then F c else n + 1) < (if c + 1 ≤ m then F (c + 1) else n + 1)
    rw [if_pos (by omega)]
    by_cases e : c = m
    · rw [e, if_neg (by omega), hm]
      omega
    · rw [if_pos (by omega)]
      exact hs c (by omega)
  · intro c hc
    show ¬ upd bc n b (if c ≤ m then F c else n + 1) = 0
    rw [if_pos (by omega)]
    by_cases e : c = m
    · rw [e, hm, pk_us]
      exact hb
    · have h1 := hs c (by omega)
      have h2 := pg_Fm hs (c := c + 1) (by omega)
      rw [pk_un (by omega)]
      exact hb1 c (by omega)
  · intro c i hc h1 h2
    have h1 : (if c ≤ m then F c else n + 1) < i := h1
    have h2 : i < (if c + 1 ≤ m then F (c + 1) else n + 1) := h2
    rw [if_pos (by omega)] at h1
    by_cases e : c = m
    · rw [e, hm] at h1
      rw [e, if_neg (by omega)] at h2
      omega
    · rw [if_pos (by omega)] at h2
      have h3 := pg_Fm hs (c := c + 1) (by omega)
      rw [pk_un (by omega)]
      exact hb0 c i (by omega) h1 h2
theorem pg_G_corner {fs bc : Nat → Int32} {n m : Nat} {F : Nat → Nat} (h : pg_G fs bc n (m + 1) F) {b : Int32} (hb : b = 0) :
    pg_G (upd fs (m + 1) (nI (n + 1))) (upd bc n b) (n + 1) (m + 1) (fun c => if c ≤ m then F c else n + 1) := by
  obtain ⟨h0, hm, hf, hs, hb1, hb0⟩ := h
  refine ⟨?_, ?_, ?_, ?_, ?_, ?_⟩
  · show (if 0 ≤ m then F 0 else n + 1) = 0
    rw [if_pos (Nat.zero_le m), h0]
  · show (if m + 1 ≤ m then F (m + 1) else n + 1) = n + 1
    rw [if_neg (by omega)]
  · intro c hc
    show _ = nI (if c ≤ m then F c else n + 1)
    by_cases e : c = m + 1
    · rw [e, pk_us, if_neg (by omega)]
    · rw [pk_un e, if_pos (by omega)]
      exact hf c (by omega)
  · intro c hc
    show (if c ≤ m then F c else n + 1) < (if c + 1 ≤ m then F (c + 1) else n + 1)
    rw [if_pos (by omega)]
    by_cases e : c = m
    · have h1 := hs m (by omega)
      rw [e, if_neg (by omega)]
      omega
    · rw [if_pos (by omega)]
      exact hs c (by omega)
  · intro c hc
    show ¬ upd bc n b (if c ≤ m then F c else n + 1) = 0
    rw [if_pos (by omega)]
    have h1 := hs c (by omega)
    have h2 := pg_Fm hs (c := c + 1) (by omega)
    rw [pk_un (by omega)]
    exact hb1 c (by omega)
  · intro c i hc h1 h2
    have h1 : (if c ≤ m then F c else n + 1) < i := h1
    have h2 : i < (if c + 1 ≤ m then F (c + 1) else n + 1) := h2
    rw [if_pos (by omega)] at h1
    by_cases e : c = m
    · rw [e] at h1
      rw [e, if_neg (by omega)] at h2
      by_cases e2 : i = n
      · rw [e2, pk_us]
        exact hb
      · rw [pk_un e2]
        exact hb0 m i (by omega) h1 (by omega)
    · rw [if_pos (by omega)] at h2
      have h3 := hs (c + 1) (by omega)
      have h4 := pg_Fm hs (c := c + 1 + 1) (by omega)
      rw [pk_un (by omega)]
      exact hb0 c i (by omega) h1 h2
end
section
/-! one answer for an edge, for a winding: 'one r such that post r gives both walks' -/
theorem pg_one : ¬ (1 : Int32) = 0 := by decide
theorem pg_m1 : ¬ (-1 : Int32) = 0 := by decide
theorem pg_right {c1 n1 : Int32} {C cx cy bc : Nat → Int32} {p q x y : Int32} (hp : vp_in p 12) (hq : vp_in q 12) (hx : pg_ok x) (hy : pg_ok y)
    (ap : pg_ok (cx p.toNatClampNeg)) (bp : pg_ok (cy p.toNatClampNeg)) (aq : pg_ok (cx q.toNatClampNeg)) (bq : pg_ok (cy q.toNatClampNeg)) {post : Int32 → Prop}
    (h : ((cx q.toNatClampNeg - cx p.toNatClampNeg) * (y - cy p.toNatClampNeg) ≤ (x - cx p.toNatClampNeg) * (cy q.toNatClampNeg - cy p.toNatClampNeg) → post 0) ∧
      (¬ (cx q.toNatClampNeg - cx p.toNatClampNeg) * (y - cy p.toNatClampNeg) ≤ (x - cx p.toNatClampNeg) * (cy q.toNatClampNeg - cy p.toNatClampNeg) → post 1)) :
    wpX_isRightOf post (c1, n1, C, cx, cy, bc) p q x y :=
  ⟨hq, hp, nm_e ⟨hq, hp, nm_e ⟨hp, hp, ek_if (pg_side ap aq bp bq hx hy) h.1 h.2⟩⟩⟩
theorem pg_e27 {c1 n1 : Int32} {C cx cy bc fs : Nat → Int32} {p q x y : Int32} (hp : vp_in p 12) (hq : vp_in q 12) (hx : pg_ok x) (hy : pg_ok y)
    (ap : pg_ok (cx p.toNatClampNeg)) (bp : pg_ok (cy p.toNatClampNeg)) (aq : pg_ok (cx q.toNatClampNeg)) (bq : pg_ok (cy q.toNatClampNeg)) :
    ∃ r : Int32, (∀ post : Int32 → Prop, post r → wX_edgeWinding_27 post p q x y 0 c1 n1 C cx cy bc) ∧ (∀ post : Int32 → Prop, post r → wY_edge_76 post p q x y n1 c1 cx cy fs C) := by
  by_cases a : y < cy q.toNatClampNeg
  · exact ⟨0, fun post h => ⟨hq, br_t a (br_t rfl (br_t rfl h))⟩, fun post h => ⟨hq, br_t a h⟩⟩
  · by_cases b : cy p.toNatClampNeg ≤ y
    · exact ⟨0, fun post h => ⟨hq, br_f a ⟨hp, br_t b (br_t rfl (br_t rfl h))⟩⟩, fun post h => ⟨hq, br_f a ⟨hp, br_t b h⟩⟩⟩
    · by_cases t : (cx p.toNatClampNeg - cx q.toNatClampNeg) * (y - cy q.toNatClampNeg) ≤ (x - cx q.toNatClampNeg) * (cy p.toNatClampNeg - cy q.toNatClampNeg)
      · exact ⟨0, fun post h => ⟨hq, br_f a ⟨hp, br_f b (br_t rfl (br_f pg_one (pg_right hq hp hx hy aq bq ap bp (br_t t (br_t rfl h)))))⟩⟩, fun post h => ⟨hq, br_f a ⟨hp, br_f b ⟨hp, hq, hq, hq, hp, hq, br_t t h⟩⟩⟩⟩
      · exact ⟨-1, fun post h => ⟨hq, br_f a ⟨hp, br_f b (br_t rfl (br_f pg_one (pg_right hq hp hx hy aq bq ap bp (br_f t (br_f pg_one h)))))⟩⟩, fun post h => ⟨hq, br_f a ⟨hp, br_f b ⟨hp, hq, hq, hq, hp, hq, br_f t h⟩⟩⟩⟩
theorem pg_edge {c1 n1 : Int32} {C cx cy bc fs : Nat → Int32} {p q x y : Int32} (hp : vp_in p 12) (hq : vp_in q 12) (hx : pg_ok x) (hy : pg_ok y)
    (ap : pg_ok (cx p.toNatClampNeg)) (bp : pg_ok (cy p.toNatClampNeg)) (aq : pg_ok (cx q.toNatClampNeg)) (bq : pg_ok (cy q.toNatClampNeg)) :
    ∃ r : Int32, (∀ post : Int32 → Prop, post r → wpX_edgeWinding post (c1, n1, C, cx, cy, bc) p q x y) ∧ (∀ post : Int32 → Prop, post r → wpY_edge post (n1, c1, cx, cy, fs, C) p q x y) := by
  obtain ⟨r, rX, rY⟩ := pg_e27 (c1 := c1) (n1 := n1) (C := C) (cx := cx) (cy := cy) (bc := bc) (fs := fs) hp hq hx hy ap bp aq bq
  by_cases a : y < cy p.toNatClampNeg
  · exact ⟨r, fun post h => ⟨hp, br_t a (rX post h)⟩, fun post h => ⟨hp, br_t a (rY post h)⟩⟩
  · by_cases b : cy q.toNatClampNeg ≤ y
    · exact ⟨r, fun post h => ⟨hp, br_f a ⟨hq, br_t b (rX post h)⟩⟩, fun post h => ⟨hp, br_f a ⟨hq, br_t b (rY post h)⟩⟩⟩
    · have b' : y < cy q.toNatClampNeg := Int32.not_le.mp b
      by_cases t : (cx q.toNatClampNeg - cx p.toNatClampNeg) * (y - cy p.toNatClampNeg) ≤ (x - cx p.toNatClampNeg) * (cy q.toNatClampNeg - cy p.toNatClampNeg)
      · exact ⟨0, fun post h => ⟨hp, br_f a ⟨hq, br_f b ⟨hq, br_t b' (br_f pg_one (pg_right hp hq hx hy ap bp aq bq (br_t t (br_t rfl (br_t rfl h)))))⟩⟩⟩, fun post h => ⟨hp, br_f a ⟨hq, br_f b ⟨hq, hp, hp, hp, hq, hp, br_t t h⟩⟩⟩⟩
      · exact ⟨1, fun post h => ⟨hp, br_f a ⟨hq, br_f b ⟨hq, br_t b' (br_f pg_one (pg_right hp hq hx hy ap bp aq bq (br_f t (br_f pg_one h))))⟩⟩⟩, fun post h => ⟨hp, br_f a ⟨hq, br_f b ⟨hq, hp, hp, hp, hq, hp, br_f t h⟩⟩⟩⟩
theorem pg_edgeN {n m : Nat} {C cx cy bc fs : Nat → Int32} (hn : n ≤ 12) (hc : ∀ i, i < n → pg_ok (cx i) ∧ pg_ok (cy i)) {x y : Int32} (hx : pg_ok x) (hy : pg_ok y) {i j : Nat} (hi : i < n) (hj : j < n) :
    ∃ r : Int32, (∀ post : Int32 → Prop, post r → wpX_edgeWinding post (nI m, nI n, C, cx, cy, bc) (nI i) (nI j) x y) ∧ (∀ post : Int32 → Prop, post r → wpY_edge post (nI n, nI m, cx, cy, fs, C) (nI i) (nI j) x y) := by
  have ei : (nI i).toNatClampNeg = i := nI_clamp (by omega)
  have ej : (nI j).toNatClampNeg = j := nI_clamp (by omega)
  exact pg_edge (vp_in_nI (by omega) (by omega)) (vp_in_nI (by omega) (by omega)) hx hy (by rw [ei]; exact (hc i hi).1) (by rw [ei]; exact (hc i hi).2) (by rw [ej]; exact (hc j hj).1) (by rw [ej]; exact (hc j hj).2)
/-- X's head of a turn of the loop: the corner that begins a contour -/
theorem pg_x8 {n m : Nat} {C cx cy bc : Nat → Int32} {x y s f : Int32} {i k N : Nat} {post : Int32 → Prop} (hi : i < n) (hn : n ≤ 12) (hb : (bc i = 0 ∧ f = nI k) ∨ (¬ bc i = 0 ∧ i = k))
    (h : wX_windingAt_31 post (wX_windingAt_8 post x y (nI m) (nI n) C cx cy bc N) x y s (nI k) (nI i) (nI m) (nI n) C cx cy bc) : wX_windingAt_8 post x y (nI m) (nI n) C cx cy bc (N + 1) s f (nI i) := by
  have ei : (nI i).toNatClampNeg = i := nI_clamp (by omega)
  rcases hb with ⟨z, e⟩ | ⟨z, e⟩
  · subst e
    exact br_f (nI_ge hi (by omega)) ⟨vp_in_nI (by omega) (by omega), br_t (by rw [ei]; exact z) h⟩
  · subst e
    exact br_f (nI_ge hi (by omega)) ⟨vp_in_nI (by omega) (by omega), br_f (by rw [ei]; exact z) h⟩
theorem pg_wind {n m : Nat} {cx cy bc fs : Nat → Int32} {F : Nat → Nat} (G : pg_G fs bc n m F) (hn : n ≤ 12) (hm : m ≤ 4) (hc : ∀ i, i < n → pg_ok (cx i) ∧ pg_ok (cy i)) (C : Nat → Int32) {x y : Int32} (hx : pg_ok x) (hy : pg_ok y) :
    ∀ d c i, i + d = n → c < m → F c ≤ i → i < F (c + 1) → ∀ s f : Int32, (f = nI (F c) ∨ i = F c) →
    ∃ r : Int32, (∀ post : Int32 → Prop, post r → wX_windingAt_8 post x y (nI m) (nI n) C cx cy bc (d + 1) s f (nI i)) ∧
      (∀ post : Int32 → Prop, post r → wY_winding_41 post (wY_winding_23 post x y (nI n) (nI m) cx cy fs C (m - c)) x y (nI c) (nI n) (nI m) cx cy fs C (F (c + 1) - i + 1) s (nI i)) := by
  obtain ⟨h0, hF, hf, hs, hb1, hb0⟩ := G
  intro d
  induction d with
  | zero =>
    intro c i e hcm h1 h2
    have := pg_Fm hs (c := c + 1) (by omega)
    omega
  | succ d ih =>
    intro c i e hcm h1 h2 s f hfi
    have hle := pg_Fm hs (c := c + 1) (by omega)
    have hb : (bc i = 0 ∧ f = nI (F c)) ∨ (¬ bc i = 0 ∧ i = F c) := by
      by_cases q : i = F c
      · exact Or.inr ⟨by rw [q]; exact hb1 c hcm, q⟩
      · refine Or.inl ⟨hb0 c i hcm (by omega) h2, ?_⟩
        rcases hfi with z | z
        · exact z
        · exact absurd z q
    have fc : fs (nI c + 1).toNatClampNeg = nI (F (c + 1)) := by
      rw [nI_1, nI_clamp (by omega)]
      exact hf (c + 1) (by omega)
    have v5 : vp_in (nI c + 1) 5 := by
      rw [nI_1]
      exact vp_in_nI (by omega) (by omega)
    have fi : ¬ fs (nI c + 1).toNatClampNeg ≤ nI i := by
      rw [fc]
      exact nI_ge h2 (by omega)
    by_cases a : i + 1 < F (c + 1)
    · obtain ⟨t, tX, tY⟩ := pg_edgeN (m := m) (C := C) (bc := bc) (fs := fs) hn hc hx hy (i := i) (j := i + 1) (by omega) (by omega)
      obtain ⟨r, rX, rY⟩ := ih c (i + 1) (by omega) hcm (by omega) a (s + t) (nI (F c)) (Or.inl rfl)
      refine ⟨r, fun post h => pg_x8 (by omega) hn hb ?_, fun post h => ?_⟩
      · refine br_f ?_ ⟨?_, br_t ?_ (br_t rfl ?_)⟩
        · rw [nI_1]
          exact nI_ge (by omega) (by omega)
        · rw [nI_1]
          exact vp_in_nI (by omega) (by omega)
        · rw [nI_1, nI_clamp (by omega)]
          exact hb0 c (i + 1) hcm (by omega) a
        · rw [nI_1]
          unfold wX_windingAt_75
          exact tX _ (nm_e (nm_r (nI_1 i) (rX post h)))
      · rw [show F (c + 1) - i = F (c + 1) - (i + 1) + 1 by omega]
        refine ⟨v5, br_f fi ⟨v5, br_f ?_ ?_⟩⟩
        · rw [fc, nI_1]
          exact nI_ge a (by omega)
        · rw [nI_1]
          unfold wY_winding_85
          exact tY _ (nm_e (nm_r (nI_1 i) (rY post h)))
    · have a1 : i + 1 = F (c + 1) := by omega
      obtain ⟨t, tX, tY⟩ := pg_edgeN (m := m) (C := C) (bc := bc) (fs := fs) hn hc hx hy (i := i) (j := F c) (by omega) (by omega)
      have f1 : fs (nI c + 1).toNatClampNeg ≤ nI i + 1 := by
        rw [fc, nI_1]
        exact nI_le (by omega) (by omega)
      have f2 : fs (nI c + 1).toNatClampNeg ≤ nI (i + 1) := by
        rw [fc]
        exact nI_le (by omega) (by omega)
      have f0 : fs (nI c).toNatClampNeg = nI (F c) := by
        rw [nI_clamp (by omega)]
        exact hf c (by omega)
      by_cases b : c + 1 = m
      · have b1 : F (c + 1) = n := by rw [b]; exact hF
        have d0 : d = 0 := by omega
        subst d0
        refine ⟨s + t, fun post h => pg_x8 (by omega) hn hb ?_, fun post h => ?_⟩
        · refine br_t ?_ (br_f pg_one ?_)
          · rw [nI_1]
            exact nI_le (by omega) (by omega)
          · unfold wX_windingAt_75
            exact tX _ (nm_e (nm_r (nI_1 i) (br_t (nI_le (by omega) (by omega)) h)))
        · rw [show F (c + 1) - i = 0 + 1 by omega, show m - c = 0 + 1 by omega]
          refine ⟨v5, br_f fi ⟨v5, br_t f1 ⟨vp_in_nI (by omega) (by omega), ?_⟩⟩⟩
          rw [f0]
          unfold wY_winding_85
          exact tY _ (nm_e (nm_r (nI_1 i) ⟨v5, br_t f2 (nm_r (nI_1 c) (br_t (nI_le (by omega) (by omega)) h))⟩))
      · have hs1 := hs (c + 1) (by omega)
        have hl1 := pg_Fm hs (c := c + 1 + 1) (by omega)
        obtain ⟨r, rX, rY⟩ := ih (c + 1) (i + 1) (by omega) (by omega) (by omega) (by omega) (s + t) (nI (F c)) (Or.inr a1)
        refine ⟨r, fun post h => pg_x8 (by omega) hn hb ?_, fun post h => ?_⟩
        · refine br_f ?_ ⟨?_, br_f ?_ (br_f pg_one ?_)⟩
          · rw [nI_1]
            exact nI_ge (by omega) (by omega)
          · rw [nI_1]
            exact vp_in_nI (by omega) (by omega)
          · rw [nI_1, nI_clamp (by omega), a1]
            exact hb1 (c + 1) (by omega)
          · unfold wX_windingAt_75
            exact tX _ (nm_e (nm_r (nI_1 i) (rX post h)))
        · rw [show F (c + 1) - i = 0 + 1 by omega, show m - c = m - (c + 1) + 1 by omega]
          refine ⟨v5, br_f fi ⟨v5, br_t f1 ⟨vp_in_nI (by omega) (by omega), ?_⟩⟩⟩
          rw [f0]
          unfold wY_winding_85
          refine tY _ (nm_e (nm_r (nI_1 i) ⟨v5, br_t f2 (nm_r (nI_1 c) (br_f (nI_ge (by omega) (by omega)) ⟨vp_in_nI (by omega) (by omega), nm_r ?_ ⟨_, rY post h⟩⟩))⟩))
          rw [nI_clamp (by omega), a1]
          exact hf (c + 1) (by omega)
theorem pg_out0 {st : SY} {x : Int32} {post : Int32 → Prop} (hx : pg_ok x) (h : post 0) : wpY_out post st x := br_f (Int32.not_lt.mpr hx.1) (br_t hx.2 h)
theorem pg_out1 {st : SY} {x : Int32} {post : Int32 → Prop} (hx : ¬ pg_ok x) (h : post 1) : wpY_out post st x := by
  by_cases a : x < 0
  · exact br_t a h
  · exact br_f a (br_f (fun b => hx ⟨Int32.not_lt.mp a, b⟩) h)
theorem pg_pt1 {x y : Int32} {post : Int32 → Prop} (hx : pg_ok x) (hy : pg_ok y) (h : post 1) : wpX_isPoint post x y :=
  br_f (Int32.not_lt.mpr hx.1) (br_f (Int32.not_lt.mpr hx.2) (br_f (Int32.not_lt.mpr hy.1) (br_f (Int32.not_lt.mpr hy.2) h)))
theorem pg_pt0 {x y : Int32} {post : Int32 → Prop} (hn : ¬ (pg_ok x ∧ pg_ok y)) (h : post 0) : wpX_isPoint post x y := by
  by_cases a : x < 0
  · exact br_t a h
  by_cases b : 64 < x
  · exact br_f a (br_t b h)
  by_cases c : y < 0
  · exact br_f a (br_f b (br_t c h))
  by_cases d : 64 < y
  · exact br_f a (br_f b (br_f c (br_t d h)))
  exact absurd ⟨⟨Int32.not_lt.mp a, Int32.not_lt.mp b⟩, ⟨Int32.not_lt.mp c, Int32.not_lt.mp d⟩⟩ hn
theorem pg_wY {c1 n1 : Int32} {C cx cy fs : Nat → Int32} {x y : Int32} {post : Int32 → Prop} (hx : pg_ok x) (hy : pg_ok y) (h : ∃ n23 : Nat, wY_winding_23 post x y n1 c1 cx cy fs C n23 0 0) : wpY_winding post (n1, c1, cx, cy, fs, C) x y := by
  unfold wpY_winding
  dsimp only
  exact pg_out0 hx (br_t rfl (pg_out0 hy (br_t rfl h)))
theorem pg_windAt {n m : Nat} {cx cy bc fs : Nat → Int32} {F : Nat → Nat} (G : pg_G fs bc n m F) (hn : n ≤ 12) (hm : m ≤ 4) (hc : ∀ i, i < n → pg_ok (cx i) ∧ pg_ok (cy i)) (C : Nat → Int32) {x y : Int32} (hx : pg_ok x) (hy : pg_ok y) :
    ∃ r : Int32, (∀ post : Int32 → Prop, post r → wpX_windingAt post (nI m, nI n, C, cx, cy, bc) x y) ∧ (∀ post : Int32 → Prop, post r → wpY_winding post (nI n, nI m, cx, cy, fs, C) x y) := by
  have h0 := G.1
  have hF := G.2.1
  by_cases z : m = 0
  · have z1 : n = 0 := by rw [← hF, z]; exact h0
    refine ⟨0, fun post h => ⟨1, br_t ?_ h⟩, fun post h => pg_wY hx hy ⟨1, br_t ?_ h⟩⟩
    · rw [z1]
      exact nI_le (a := 0) (b := 0) (Nat.le_refl 0) (by decide)
    · rw [z]
      exact nI_le (a := 0) (b := 0) (Nat.le_refl 0) (by decide)
  · have h1 := G.2.2.2.1 0 (by omega)
    have hf0 := G.2.2.1 0 (by omega)
    obtain ⟨r, rX, rY⟩ := pg_wind G hn hm hc C hx hy n 0 0 (by omega) (by omega) (by omega) (by omega) 0 0 (Or.inr h0.symm)
    refine ⟨r, fun post h => ⟨n + 1, rX post h⟩, fun post h => pg_wY hx hy ⟨m + 1, br_f ?_ ⟨vp_in_nI (n := 0) (by omega) (by omega), nm_r ?_ ⟨_, rY post h⟩⟩⟩⟩
    · exact nI_ge (a := 0) (by omega) (by omega)
    · show fs (nI 0).toNatClampNeg = nI 0
      rw [nI_clamp (by omega), hf0, h0]
end
section
/-! one answer for a sample, for a pixel's coverage, for the area -/
theorem pg_inside {n m : Nat} {cx cy bc fs : Nat → Int32} {F : Nat → Nat} (G : pg_G fs bc n m F) (hn : n ≤ 12) (hm : m ≤ 4) (hc : ∀ i, i < n → pg_ok (cx i) ∧ pg_ok (cy i)) (C : Nat → Int32) {x y : Int32} (hx : pg_ok x) (hy : pg_ok y) (o : Int32) :
    ∃ r : Int32, (∀ post : Int32 → Prop, post r → wpX_isInside post (nI m, nI n, C, cx, cy, bc) x y o) ∧ (∀ post : Int32 → Prop, post r → wpY_inside post (nI n, nI m, cx, cy, fs, C) x y o) := by
  obtain ⟨w, wX, wY⟩ := pg_windAt G hn hm hc C hx hy
  unfold wpX_isInside wpY_inside
  dsimp only
  by_cases a : o = 0
  · by_cases b : w = 0
    · exact ⟨0, fun post h => wX _ (br_t a (br_t b h)), fun post h => wY _ (br_t a (br_t b h))⟩
    · exact ⟨1, fun post h => wX _ (br_t a (br_f b h)), fun post h => wY _ (br_t a (br_f b h))⟩
  · by_cases b : w &&& 1 = 1
    · exact ⟨1, fun post h => wX _ (br_f a (br_t b h)), fun post h => wY _ (br_f a (br_t b h))⟩
    · exact ⟨0, fun post h => wX _ (br_f a (br_f b h)), fun post h => wY _ (br_f a (br_f b h))⟩
/-- counts that rise unless c -/
theorem pg_bx {c : Prop} [Decidable c] {P : Int32 → Int32 → Prop} {k e z : Int32} (hz : e = z) (h : P (if c then k else k + 1) z) : (c → ∀ y : Int32, y = e → P k y) ∧ (¬ c → ∀ x : Int32, x = k + 1 → ∀ y : Int32, y = e → P x y) := by
  subst hz
  by_cases a : c
  · rw [if_pos a] at h
    exact br_t a (nm_e h)
  · rw [if_neg a] at h
    exact br_f a (nm_e (nm_e h))
theorem pg_by {c : Prop} [Decidable c] {P : Int32 → Prop} {k : Int32} (h : P (if c then k else k + 1)) : (c → P k) ∧ (¬ c → ∀ x : Int32, x = k + 1 → P x) := by
  by_cases a : c
  · rw [if_pos a] at h
    exact br_t a h
  · rw [if_neg a] at h
    exact br_f a (nm_e h)
theorem pg_x25 {c1 n1 : Int32} {C cx cy bc : Nat → Int32} {post : Int32 → Prop} {J : Int32 → Int32 → Prop} {o L T d k s s' r : Int32} {N : Nat} (hs : ¬ 4 ≤ s) (e : s + 2 = s')
    (hX : ∀ post : Int32 → Prop, post r → wpX_isInside post (c1, n1, C, cx, cy, bc) (L + s) (T + d) o) (h : wX_coveredSamples_25 post J o L T d c1 n1 C cx cy bc N (if r = 0 then k else k + 1) s') : wX_coveredSamples_25 post J o L T d c1 n1 C cx cy bc (N + 1) k s :=
  br_f hs (hX _ (pg_bx (P := fun a b => wX_coveredSamples_25 post J o L T d c1 n1 C cx cy bc N a b) e h))
theorem pg_y18 {c1 n1 : Int32} {C cx cy fs : Nat → Int32} {post : Int32 → Prop} {a b o X Y k s s' r : Int32} {N : Nat} (hs : ¬ 4 ≤ s) (e : s + 1 = s') (eX : 4 * b + 1 + 2 * (s - s / 2 * 2) = X) (eY : 4 * a + 1 + 2 * (s / 2) = Y)
    (hY : ∀ post : Int32 → Prop, post r → wpY_inside post (n1, c1, cx, cy, fs, C) X Y o) (h : wY_coverage_18 post a b o n1 c1 cx cy fs C N (if r = 0 then k else k + 1) s') : wY_coverage_18 post a b o n1 c1 cx cy fs C (N + 1) k s := by
  subst eX eY
  exact br_f hs ⟨by decide, by decide, hY _ (pg_bx (P := fun u v => wY_coverage_18 post a b o n1 c1 cx cy fs C N u v) e h)⟩
theorem pg_mul4 (a : Nat) : nI a * 4 = nI (4 * a) := by
  rw [Nat.mul_comm]
  exact pk_mul a 4
theorem pg_4mul (a : Nat) : 4 * nI a = nI (4 * a) := pk_mul 4 a
theorem pg_s0 (b : Nat) {z : Int32} (hz : 2 * z = 0) : 4 * nI b + 1 + 2 * z = nI (4 * b) + 1 := by
  rw [pg_4mul, hz, Int32.add_zero]
theorem pg_s1 (b : Nat) {z : Int32} (hz : 2 * z = 2) : 4 * nI b + 1 + 2 * z = nI (4 * b) + 3 := by
  rw [pg_4mul, hz, Int32.add_assoc]
  rfl
theorem pg_bad0 {st : SY} {a b : Nat} {post : Int32 → Prop} (ha : a < 16) (hb : b < 16) (h : post 0) : wpY_badPixel post st (nI a) (nI b) :=
  br_f (nI_pos (by omega)) (br_f (nI_nlt (a := 15) (by omega) (by omega)) (br_f (nI_pos (by omega)) (br_t (nI_le (b := 15) (by omega) (by omega)) h)))
theorem pg_cov {n m : Nat} {cx cy bc fs : Nat → Int32} {F : Nat → Nat} (G : pg_G fs bc n m F) (hn : n ≤ 12) (hm : m ≤ 4) (hc : ∀ i, i < n → pg_ok (cx i) ∧ pg_ok (cy i)) (C : Nat → Int32) (o : Int32) {a b : Nat} (ha : a < 16) (hb : b < 16) :
    ∃ k : Int32, (∀ post : Int32 → Prop, post k → wpX_coveredSamples post (nI m, nI n, C, cx, cy, bc) (nI a) (nI b) o) ∧ (∀ post : Int32 → Prop, post k → wpY_coverage post (nI n, nI m, cx, cy, fs, C) (nI a) (nI b) o) := by
  have o1 : ∀ c, c < 16 → pg_ok (nI (4 * c) + 1) := fun c h => by
    rw [nI_1]
    exact pg_okN (by omega)
  have o3 : ∀ c, c < 16 → pg_ok (nI (4 * c) + 3) := fun c h => by
    rw [show (3 : Int32) = nI 3 from rfl, nI_add]
    exact pg_okN (by omega)
  obtain ⟨r1, X1, Y1⟩ := pg_inside G hn hm hc C (o1 b hb) (o1 a ha) o
  obtain ⟨r2, X2, Y2⟩ := pg_inside G hn hm hc C (o3 b hb) (o1 a ha) o
  obtain ⟨r3, X3, Y3⟩ := pg_inside G hn hm hc C (o1 b hb) (o3 a ha) o
  obtain ⟨r4, X4, Y4⟩ := pg_inside G hn hm hc C (o3 b hb) (o3 a ha) o
  have z13 : (1 : Int32) + 2 = 3 := by decide
  have z35 : (3 : Int32) + 2 = 5 := by decide
  have n1 : ¬ (4 : Int32) ≤ 1 := by decide
  have n3 : ¬ (4 : Int32) ≤ 3 := by decide
  have y5 : (4 : Int32) ≤ 5 := by decide
  refine ⟨_, fun post h => nm_r (pg_mul4 b) (nm_r (pg_mul4 a) ⟨3, br_f n1 ⟨3, pg_x25 n1 z13 X1 (pg_x25 n3 z35 X2 (br_t y5 (nm_r z13 (br_f n3 ⟨3, pg_x25 n1 z13 X3 (pg_x25 n3 z35 X4 (br_t y5 (nm_r z35 (br_t y5 h))))⟩))))⟩⟩), fun post h => ?_⟩
  unfold wpY_coverage
  dsimp only
  refine pg_bad0 ha hb (br_t rfl ⟨5, ?_⟩)
  refine pg_y18 (s' := 1) (by decide) (by decide) (pg_s0 b (by decide)) (pg_s0 a (by decide)) Y1 ?_
  refine pg_y18 (s' := 2) (by decide) (by decide) (pg_s1 b (by decide)) (pg_s0 a (by decide)) Y2 ?_
  refine pg_y18 (s' := 3) (by decide) (by decide) (pg_s0 b (by decide)) (pg_s1 a (by decide)) Y3 ?_
  refine pg_y18 (s' := 4) (by decide) (by decide) (pg_s1 b (by decide)) (pg_s1 a (by decide)) Y4 ?_
  exact br_t (by decide) h
theorem pg_div16 {p a b : Nat} (e : p = 16 * a + b) (hb : b < 16) (hp : p < 256) : nI p / 16 = nI a := by
  have h := pk_div (a := p) (d := 16) (by omega) (by omega) (by omega)
  rw [show p / 16 = a by omega] at h
  exact h
theorem pg_rem16 {p a b : Nat} (e : p = 16 * a + b) (hb : b < 16) (hp : p < 256) : nI p - nI p / 16 * 16 = nI b := by
  have h := pk_rem (a := p) (d := 16) (by omega) (by omega) (by omega)
  rw [show p % 16 = b by omega] at h
  exact h
theorem pg_area {n m : Nat} {cx cy bc fs : Nat → Int32} {F : Nat → Nat} (G : pg_G fs bc n m F) (hn : n ≤ 12) (hm : m ≤ 4) (hc : ∀ i, i < n → pg_ok (cx i) ∧ pg_ok (cy i)) (C : Nat → Int32) (o : Int32) :
    ∀ d p a b, p + d = 256 → p = 16 * a + b → a < 16 → b < 16 → ∀ s : Int32,
    ∃ r : Int32, (∀ post : Int32 → Prop, post r → wX_area_13 post (wX_area_4 post o (nI m) (nI n) C cx cy bc (16 - a)) o (nI a) (nI m) (nI n) C cx cy bc (16 - b + 1) s (nI b)) ∧
      (∀ post : Int32 → Prop, post r → wY_area_4 post o (nI n) (nI m) cx cy fs C (d + 1) s (nI p)) := by
  intro d
  induction d with
  | zero =>
    intro p a b e1 e2 ha hb
    omega
  | succ d ih =>
    intro p a b e1 e2 ha hb s
    obtain ⟨k, kX, kY⟩ := pg_cov G hn hm hc C o ha hb
    have q16 : ¬ (16 : Int32) ≤ nI b := nI_ge (b := 16) hb (by omega)
    have q256 : ¬ (256 : Int32) ≤ nI p := nI_ge (b := 256) (by omega) (by omega)
    have d1 := pg_div16 e2 hb (by omega)
    have d2 := pg_rem16 e2 hb (by omega)
    have sX : ∀ (post : Int32 → Prop) (J : Int32 → Int32 → Prop) (N : Nat), wX_area_13 post J o (nI a) (nI m) (nI n) C cx cy bc N (s + k) (nI (b + 1)) → wX_area_13 post J o (nI a) (nI m) (nI n) C cx cy bc (N + 1) s (nI b) :=
      fun post J N h => br_f q16 (kX _ (nm_e (nm_r (nI_1 b) h)))
    have sY : ∀ (post : Int32 → Prop) (N : Nat), wY_area_4 post o (nI n) (nI m) cx cy fs C N (s + k) (nI (p + 1)) → wY_area_4 post o (nI n) (nI m) cx cy fs C (N + 1) s (nI p) := by
      intro post N h
      refine br_f q256 ⟨by decide, by decide, ?_⟩
      rw [d2, d1]
      exact kY _ (nm_e (nm_r (nI_1 p) h))
    by_cases c1 : b + 1 < 16
    · obtain ⟨r, rX, rY⟩ := ih (p + 1) a (b + 1) (by omega) (by omega) ha c1 (s + k)
      refine ⟨r, fun post h => ?_, fun post h => sY post _ (rY post h)⟩
      rw [show 16 - b = 16 - (b + 1) + 1 by omega]
      exact sX post _ _ (rX post h)
    · have b15 : b = 15 := by omega
      subst b15
      by_cases c2 : a + 1 < 16
      · obtain ⟨r, rX, rY⟩ := ih (p + 1) (a + 1) 0 (by omega) (by omega) c2 (by omega) (s + k)
        refine ⟨r, fun post h => ?_, fun post h => sY post _ (rY post h)⟩
        rw [show 16 - a = 16 - (a + 1) + 1 by omega]
        exact sX post _ 1 (br_t (nI_le (a := 16) (b := 16) (by omega) (by omega)) (nm_r (nI_1 a) (br_f (nI_ge (b := 16) c2 (by omega)) ⟨_, rX post h⟩)))
      · have a15 : a = 15 := by omega
        have d0 : d = 0 := by omega
        have p255 : p = 255 := by omega
        subst a15
        subst d0
        subst p255
        refine ⟨s + k, fun post h => sX post _ 1 (br_t (nI_le (a := 16) (b := 16) (by omega) (by omega)) (nm_r (nI_1 15) (br_t (nI_le (a := 16) (b := 16) (by omega) (by omega)) h))), fun post h => sY post _ (br_t (nI_le (a := 256) (b := 256) (by omega) (by omega)) h)⟩
end
section
/-! paint, wipe, mirror, move, rowSum: both sides in lockstep -/
theorem pg_blend {c1 n1 : Int32} {C cx cy bc : Nat → Int32} {p x k : Int32} {post : SX → Prop} (hp : vp_in p 256)
    (h : post (c1, n1, upd C p.toNatClampNeg ((C p.toNatClampNeg * (4 - k) + x * k) / 4), cx, cy, bc)) : wpX_blend post (c1, n1, C, cx, cy, bc) p x k :=
  ⟨hp, nm_e ⟨by decide, hp, nm_e h⟩⟩
theorem pg_paint {n m : Nat} {cx cy bc fs : Nat → Int32} {F : Nat → Nat} (G : pg_G fs bc n m F) (hn : n ≤ 12) (hm : m ≤ 4) (hc : ∀ i, i < n → pg_ok (cx i) ∧ pg_ok (cy i)) (x o : Int32) :
    ∀ d p a b, p + d = 256 → p = 16 * a + b → a < 16 → b < 16 → ∀ (s : Int32) (C : Nat → Int32),
    ∃ (r : Int32) (D : Nat → Int32), (∀ post : Int32 → SX → Prop, post r (nI m, nI n, D, cx, cy, bc) → wX_paint_25 post (wX_paint_15 post x o (16 - a)) x o (nI a) (16 - b + 1) s (nI b) (nI m) (nI n) C cx cy bc) ∧
      (∀ post : Int32 → SY → Prop, post r (nI n, nI m, cx, cy, fs, D) → wY_paint_19 post x o (nI n) (nI m) (d + 1) s (nI p) cx cy fs C) := by
  intro d
  induction d with
  | zero =>
    intro p a b e1 e2 ha hb
    omega
  | succ d ih =>
    intro p a b e1 e2 ha hb s C
    obtain ⟨k, kX, kY⟩ := pg_cov G hn hm hc C o ha hb
    have q16 : ¬ (16 : Int32) ≤ nI b := nI_ge (b := 16) hb (by omega)
    have q256 : ¬ (256 : Int32) ≤ nI p := nI_ge (b := 256) (by omega) (by omega)
    have d1 := pg_div16 e2 hb (by omega)
    have d2 := pg_rem16 e2 hb (by omega)
    have ix : nI a * 16 + nI b = nI p := by
      have h1 : nI a * 16 = nI (a * 16) := pk_mul a 16
      rw [h1, nI_add]
      exact congrArg nI (by omega)
    have vp : vp_in (nI p) 256 := vp_in_nI (by omega) (by omega)
    generalize hs : (if k ≤ 0 then s else s + 1) = s'
    generalize hC : upd C (nI p).toNatClampNeg ((C (nI p).toNatClampNeg * (4 - k) + x * k) / 4) = C'
    have sX : ∀ (post : Int32 → SX → Prop) (J : Int32 → Int32 → Int32 → Int32 → (Nat → Int32) → (Nat → Int32) → (Nat → Int32) → (Nat → Int32) → Prop) (N : Nat),
        wX_paint_25 post J x o (nI a) N s' (nI (b + 1)) (nI m) (nI n) C' cx cy bc → wX_paint_25 post J x o (nI a) (N + 1) s (nI b) (nI m) (nI n) C cx cy bc := by
      intro post J N h
      refine br_f q16 (kX _ ?_)
      rw [ix]
      refine pg_blend vp ?_
      rw [hC]
      subst hs
      exact pg_bx (P := fun u v => wX_paint_25 post J x o (nI a) N u v (nI m) (nI n) C' cx cy bc) (nI_1 b) h
    have sY : ∀ (post : Int32 → SY → Prop) (N : Nat), wY_paint_19 post x o (nI n) (nI m) N s' (nI (p + 1)) cx cy fs C' → wY_paint_19 post x o (nI n) (nI m) (N + 1) s (nI p) cx cy fs C := by
      intro post N h
      refine br_f q256 ⟨by decide, by decide, ?_⟩
      rw [d2, d1]
      refine kY _ ?_
      subst hs
      refine pg_by (P := fun u => wY_paint_52 post (wY_paint_19 post x o (nI n) (nI m) N) x o u (nI p) k (nI n) (nI m) cx cy fs C) ?_
      exact ⟨vp, by decide, vp, nm_r hC (nm_r (nI_1 p) h)⟩
    by_cases c1 : b + 1 < 16
    · obtain ⟨r, D, rX, rY⟩ := ih (p + 1) a (b + 1) (by omega) (by omega) ha c1 s' C'
      refine ⟨r, D, fun post h => ?_, fun post h => sY post _ (rY post h)⟩
      rw [show 16 - b = 16 - (b + 1) + 1 by omega]
      exact sX post _ _ (rX post h)
    · have b15 : b = 15 := by omega
      subst b15
      by_cases c2 : a + 1 < 16
      · obtain ⟨r, D, rX, rY⟩ := ih (p + 1) (a + 1) 0 (by omega) (by omega) c2 (by omega) s' C'
        refine ⟨r, D, fun post h => ?_, fun post h => sY post _ (rY post h)⟩
        rw [show 16 - a = 16 - (a + 1) + 1 by omega]
        exact sX post _ 1 (br_t (nI_le (a := 16) (b := 16) (by omega) (by omega)) (nm_r (nI_1 a) (br_f (nI_ge (b := 16) c2 (by omega)) ⟨_, rX post h⟩)))
      · have a15 : a = 15 := by omega
        have d0 : d = 0 := by omega
        have p255 : p = 255 := by omega
        subst a15
        subst d0
        subst p255
        exact ⟨s', C', fun post h => sX post _ 1 (br_t (nI_le (a := 16) (b := 16) (by omega) (by omega)) (nm_r (nI_1 15) (br_t (nI_le (a := 16) (b := 16) (by omega) (by omega)) h))), fun post h => sY post _ (br_t (nI_le (a := 256) (b := 256) (by omega) (by omega)) h)⟩
theorem pg_wipe {c1 n1 : Int32} {cx cy bc fs : Nat → Int32} (x : Int32) :
    ∀ d i, i + d = 256 → ∀ C : Nat → Int32, ∃ D : Nat → Int32,
    (∀ post : Int32 → SX → Prop, post 0 (c1, n1, D, cx, cy, bc) → wX_wipe_12 post x c1 n1 (d + 1) (nI i) C cx cy bc) ∧
    (∀ post : Int32 → SY → Prop, post 0 (n1, c1, cx, cy, fs, D) → wY_wipe_16 post x n1 c1 (d + 1) (nI i) cx cy fs C) := by
  intro d
  induction d with
  | zero =>
    intro i e C
    have q : (256 : Int32) ≤ nI i := nI_le (a := 256) (by omega) (by omega)
    exact ⟨C, fun post h => br_t q h, fun post h => br_t q h⟩
  | succ d ih =>
    intro i e C
    have q : ¬ (256 : Int32) ≤ nI i := nI_ge (b := 256) (by omega) (by omega)
    have v : vp_in (nI i) 256 := vp_in_nI (by omega) (by omega)
    obtain ⟨D, hX, hY⟩ := ih (i + 1) (by omega) (upd C (nI i).toNatClampNeg x)
    exact ⟨D, fun post h => br_f q ⟨v, nm_e (nm_r (nI_1 i) (hX post h))⟩, fun post h => br_f q ⟨v, nm_e (nm_r (nI_1 i) (hY post h))⟩⟩
theorem pg_updOk {f : Nat → Int32} {i n : Nat} {v : Int32} (h : ∀ j, j < n → pg_ok (f j)) (hv : pg_ok v) : ∀ j, j < n → pg_ok (upd f i v j) := by
  intro j hj
  by_cases e : j = i
  · rw [e, pk_us]
    exact hv
  · rw [pk_un e]
    exact h j hj
theorem pg_mirror {n : Nat} (hn : n ≤ 12) {c1 : Int32} {C bc fs : Nat → Int32} :
    ∀ d i, i + d = n → ∀ cx cy : Nat → Int32, (∀ j, j < n → pg_ok (cx j)) → (∀ j, j < n → pg_ok (cy j)) → ∃ dx dy : Nat → Int32, (∀ j, j < n → pg_ok (dx j) ∧ pg_ok (dy j)) ∧
    (∀ post : SX → Prop, post (c1, nI n, C, dx, dy, bc) → wX_mirror_2 post c1 (nI n) (d + 1) (nI i) C cx cy bc) ∧
    (∀ post : SY → Prop, post (nI n, c1, dx, dy, fs, C) → wY_mirror_2 post (nI n) c1 (d + 1) (nI i) cx cy fs C) := by
  intro d
  induction d with
  | zero =>
    intro i e cx cy h1 h2
    have q : nI n ≤ nI i := nI_le (by omega) (by omega)
    exact ⟨cx, cy, fun j hj => ⟨h1 j hj, h2 j hj⟩, fun post h => br_t q h, fun post h => br_t q h⟩
  | succ d ih =>
    intro i e cx cy h1 h2
    have q : ¬ nI n ≤ nI i := nI_ge (by omega) (by omega)
    have v : vp_in (nI i) 12 := vp_in_nI (by omega) (by omega)
    have ei : (nI i).toNatClampNeg = i := nI_clamp (by omega)
    obtain ⟨dx, dy, hd, hX, hY⟩ := ih (i + 1) (by omega) (upd cx (nI i).toNatClampNeg (cy (nI i).toNatClampNeg)) (upd cy (nI i).toNatClampNeg (cx (nI i).toNatClampNeg))
      (pg_updOk h1 (by rw [ei]; exact h2 i (by omega))) (pg_updOk h2 (by rw [ei]; exact h1 i (by omega)))
    exact ⟨dx, dy, hd, fun post h => br_f q ⟨v, nm_e ⟨v, v, nm_e ⟨v, nm_e (nm_r (nI_1 i) (hX post h))⟩⟩⟩, fun post h => br_f q ⟨v, nm_e ⟨v, v, nm_e ⟨v, nm_e (nm_r (nI_1 i) (hY post h))⟩⟩⟩⟩
/-- a step of the second loop of move: the corners below i have moved, the others are still to move -/
theorem pg_updMv {f : Nat → Int32} {i n : Nat} {x : Int32} (hi : i < n) (h1 : ∀ j, j < i → pg_ok (f j)) (h2 : ∀ j, i ≤ j → j < n → pg_ok (f j + x)) :
    (∀ j, j < i + 1 → pg_ok (upd f i (f i + x) j)) ∧ (∀ j, i + 1 ≤ j → j < n → pg_ok (upd f i (f i + x) j + x)) := by
  constructor
  · intro j hj
    by_cases e : j = i
    · rw [e, pk_us]
      exact h2 i (Nat.le_refl i) hi
    · rw [pk_un e]
      exact h1 j (by omega)
  · intro j hj hj2
    rw [pk_un (by omega)]
    exact h2 j (by omega) hj2
theorem pg_move2 {n : Nat} (hn : n ≤ 12) {c1 : Int32} {C bc fs : Nat → Int32} (x y : Int32) :
    ∀ d i, i + d = n → ∀ cx cy : Nat → Int32, (∀ j, j < i → pg_ok (cx j)) → (∀ j, i ≤ j → j < n → pg_ok (cx j + x)) → (∀ j, j < i → pg_ok (cy j)) → (∀ j, i ≤ j → j < n → pg_ok (cy j + y)) →
    ∃ dx dy : Nat → Int32, (∀ j, j < n → pg_ok (dx j) ∧ pg_ok (dy j)) ∧
    (∀ post : Int32 → SX → Prop, post (nI n) (c1, nI n, C, dx, dy, bc) → wX_move_42 post x y c1 (nI n) (d + 1) (nI i) C cx cy bc) ∧
    (∀ post : Int32 → SY → Prop, post (nI n) (nI n, c1, dx, dy, fs, C) → wY_move_74 post x y (nI n) c1 (d + 1) (nI i) cx cy fs C) := by
  intro d
  induction d with
  | zero =>
    intro i e cx cy h1 h2 h3 h4
    have q : nI n ≤ nI i := nI_le (by omega) (by omega)
    exact ⟨cx, cy, fun j hj => ⟨h1 j (by omega), h3 j (by omega)⟩, fun post h => br_t q h, fun post h => br_t q h⟩
  | succ d ih =>
    intro i e cx cy h1 h2 h3 h4
    have q : ¬ nI n ≤ nI i := nI_ge (by omega) (by omega)
    have v : vp_in (nI i) 12 := vp_in_nI (by omega) (by omega)
    have ei : (nI i).toNatClampNeg = i := nI_clamp (by omega)
    obtain ⟨a1, a2⟩ := pg_updMv (show i < n by omega) h1 h2
    obtain ⟨b1, b2⟩ := pg_updMv (show i < n by omega) h3 h4
    obtain ⟨dx, dy, hd, hX, hY⟩ := ih (i + 1) (by omega) _ _ a1 a2 b1 b2
    have ex : upd cx (nI i).toNatClampNeg (cx (nI i).toNatClampNeg + x) = upd cx i (cx i + x) := by rw [ei]
    have ey : upd cy (nI i).toNatClampNeg (cy (nI i).toNatClampNeg + y) = upd cy i (cy i + y) := by rw [ei]
    exact ⟨dx, dy, hd, fun post h => br_f q ⟨v, v, nm_r ex ⟨v, v, nm_r ey (nm_r (nI_1 i) (hX post h))⟩⟩, fun post h => br_f q ⟨v, v, nm_r ex ⟨v, v, nm_r ey (nm_r (nI_1 i) (hY post h))⟩⟩⟩
theorem pg_move1 {n : Nat} (hn : n ≤ 12) {c1 : Int32} {C cx cy bc fs : Nat → Int32} (hc : ∀ i, i < n → pg_ok (cx i) ∧ pg_ok (cy i)) (x y : Int32) :
    ∀ d i, i + d = n →
    ((∀ post : Int32 → SX → Prop, post (-1) (c1, nI n, C, cx, cy, bc) → wX_move_2 post x y c1 (nI n) C cx cy bc (d + 1) (nI i)) ∧
     (∀ post : Int32 → SY → Prop, post (-1) (nI n, c1, cx, cy, fs, C) → wY_move_2 post x y (nI n) c1 cx cy fs C (d + 1) (nI i))) ∨
    ((∀ j, i ≤ j → j < n → pg_ok (cx j + x) ∧ pg_ok (cy j + y)) ∧
     (∀ post : Int32 → SX → Prop, (∃ k : Nat, wX_move_42 post x y c1 (nI n) k 0 C cx cy bc) → wX_move_2 post x y c1 (nI n) C cx cy bc (d + 1) (nI i)) ∧
     (∀ post : Int32 → SY → Prop, (∃ k : Nat, wY_move_74 post x y (nI n) c1 k 0 cx cy fs C) → wY_move_2 post x y (nI n) c1 cx cy fs C (d + 1) (nI i))) := by
  intro d
  induction d with
  | zero =>
    intro i e
    have q : nI n ≤ nI i := nI_le (by omega) (by omega)
    exact Or.inr ⟨fun j h1 h2 => by omega, fun post h => br_t q h, fun post h => br_t q h⟩
  | succ d ih =>
    intro i e
    have q : ¬ nI n ≤ nI i := nI_ge (by omega) (by omega)
    have v : vp_in (nI i) 12 := vp_in_nI (by omega) (by omega)
    have ei : (nI i).toNatClampNeg = i := nI_clamp (by omega)
    obtain ⟨ax, ay⟩ := hc i (by omega)
    by_cases t : pg_ok (cx i + x) ∧ pg_ok (cy i + y)
    · obtain ⟨x1, x2⟩ := pg_mv ax t.1
      obtain ⟨y1, y2⟩ := pg_mv ay t.2
      have x3 : ¬ 64 < x := Int32.not_lt.mpr x2
      have y3 : ¬ 64 < y := Int32.not_lt.mpr y2
      have tx : pg_ok (cx (nI i).toNatClampNeg + x) := by rw [ei]; exact t.1
      have ty : pg_ok (cy (nI i).toNatClampNeg + y) := by rw [ei]; exact t.2
      have sX : ∀ post : Int32 → SX → Prop, wX_move_2 post x y c1 (nI n) C cx cy bc (d + 1) (nI (i + 1)) → wX_move_2 post x y c1 (nI n) C cx cy bc (d + 1 + 1) (nI i) :=
        fun post h => br_f q ⟨v, v, pg_pt1 tx ty (br_f pg_one (nm_r (nI_1 i) h))⟩
      have sY : ∀ post : Int32 → SY → Prop, wY_move_2 post x y (nI n) c1 cx cy fs C (d + 1) (nI (i + 1)) → wY_move_2 post x y (nI n) c1 cx cy fs C (d + 1 + 1) (nI i) :=
        fun post h => br_f q (br_f x1 (br_f x3 (br_f y1 (br_f y3 ⟨v, pg_out0 tx (br_t rfl ⟨v, pg_out0 ty (br_t rfl (nm_r (nI_1 i) h))⟩)⟩))))
      rcases ih (i + 1) (by omega) with ⟨hX, hY⟩ | ⟨h1, hX, hY⟩
      · exact Or.inl ⟨fun post h => sX post (hX post h), fun post h => sY post (hY post h)⟩
      · refine Or.inr ⟨fun j h2 h3 => ?_, fun post h => sX post (hX post h), fun post h => sY post (hY post h)⟩
        by_cases e2 : j = i
        · rw [e2]
          exact t
        · exact h1 j (by omega) h3
    · refine Or.inl ⟨fun post h => br_f q ⟨v, v, pg_pt0 (by rw [ei]; exact t) (br_t rfl h)⟩, fun post h => br_f q ?_⟩
      by_cases x1 : x < -64
      · exact br_t x1 h
      refine br_f x1 ?_
      by_cases x3 : 64 < x
      · exact br_t x3 h
      refine br_f x3 ?_
      by_cases y1 : y < -64
      · exact br_t y1 h
      refine br_f y1 ?_
      by_cases y3 : 64 < y
      · exact br_t y3 h
      refine br_f y3 ⟨v, ?_⟩
      by_cases tx : pg_ok (cx i + x)
      · refine pg_out0 (by rw [ei]; exact tx) (br_t rfl ⟨v, pg_out1 ?_ (br_f pg_one h)⟩)
        rw [ei]
        exact fun z => t ⟨tx, z⟩
      · exact pg_out1 (by rw [ei]; exact tx) (br_f pg_one h)
theorem pg_rowSum {c1 n1 : Int32} {C cx cy bc fs : Nat → Int32} {a : Nat} (ha : a < 16) :
    ∀ d b, b + d = 16 → ∀ s : Int32, ∃ r : Int32,
    (∀ post : Int32 → Prop, post r → wX_rowSum_15 post (nI a) c1 n1 C cx cy bc (d + 1) s (nI b)) ∧ (∀ post : Int32 → Prop, post r → wY_rowSum_17 post (nI a) n1 c1 cx cy fs C (d + 1) s (nI b)) := by
  intro d
  induction d with
  | zero =>
    intro b e s
    have q : (16 : Int32) ≤ nI b := nI_le (a := 16) (by omega) (by omega)
    exact ⟨s, fun post h => br_t q h, fun post h => br_t q h⟩
  | succ d ih =>
    intro b e s
    have q : ¬ (16 : Int32) ≤ nI b := nI_ge (b := 16) (by omega) (by omega)
    have h1 : nI a * 16 = nI (a * 16) := pk_mul a 16
    have v : vp_in (nI a * 16 + nI b) 256 := by
      rw [h1, nI_add]
      exact vp_in_nI (by omega) (by omega)
    obtain ⟨r, hX, hY⟩ := ih (b + 1) (by omega) (s + C (nI a * 16 + nI b).toNatClampNeg)
    exact ⟨r, fun post h => br_f q ⟨v, nm_e (nm_r (nI_1 b) (hX post h))⟩, fun post h => br_f q ⟨v, nm_e (nm_r (nI_1 b) (hY post h))⟩⟩
end
section
/-! the relation and the owed statements -/
theorem pg_nar1 : ¬ vp_nar .boolean 1 = 0 := by decide
theorem pg_nar0 : vp_nar .boolean 0 = 0 := by decide
theorem pg_putOk {cx cy : Nat → Int32} {n : Nat} {x y : Int32} (hc : ∀ i, i < n → pg_ok (cx i) ∧ pg_ok (cy i)) (hx : pg_ok x) (hy : pg_ok y) : ∀ i, i < n + 1 → pg_ok (upd cx n x i) ∧ pg_ok (upd cy n y i) := by
  intro i hi
  by_cases e : i = n
  · rw [e, pk_us, pk_us]
    exact ⟨hx, hy⟩
  · rw [pk_un e, pk_un e]
    exact hc i (by omega)
/-- a row or a column: 0 to 15 -/
def pg_in (v : Int32) : Prop := 0 ≤ v ∧ v ≤ 15
theorem pg_15 {v : Int32} (h : v ≤ 15) : ¬ 16 ≤ v := by
  intro z
  exact absurd (Int32.le_trans z h) (by decide)
theorem pg_16 {v : Int32} (h : ¬ 16 ≤ v) : v ≤ 15 := by
  have h1 : (16 : Int32).toInt = 16 := by decide
  have h2 : (15 : Int32).toInt = 15 := by decide
  rw [Int32.le_iff_toInt_le, h1] at h
  rw [Int32.le_iff_toInt_le, h2]
  omega
theorem pg_inN {v : Int32} (h : pg_in v) : ∃ a : Nat, a < 16 ∧ v = nI a := by
  obtain ⟨j, hj, e⟩ := nI_of2 (x := v) (M := 15) (n := 15) (by decide) (Int32.not_lt.mpr h.1) h.2
  exact ⟨j, by omega, e⟩
theorem pg_pix (x y : Int32) : (¬ (pg_in x ∧ pg_in y)) ∨ ∃ a b : Nat, a < 16 ∧ b < 16 ∧ x = nI a ∧ y = nI b := by
  by_cases h : pg_in x ∧ pg_in y
  · obtain ⟨a, ha, ea⟩ := pg_inN h.1
    obtain ⟨b, hb, eb⟩ := pg_inN h.2
    exact Or.inr ⟨a, b, ha, hb, ea, eb⟩
  · exact Or.inl h
theorem pg_isPix0 {x y : Int32} {post : Int32 → Prop} (hn : ¬ (pg_in x ∧ pg_in y)) (h : post 0) : wpX_isPixel post x y := by
  by_cases a : x < 0
  · exact br_t a h
  by_cases b : 16 ≤ x
  · exact br_f a (br_t b h)
  by_cases c : y < 0
  · exact br_f a (br_f b (br_t c h))
  by_cases d : 16 ≤ y
  · exact br_f a (br_f b (br_f c (br_t d h)))
  exact absurd ⟨⟨Int32.not_lt.mp a, pg_16 b⟩, ⟨Int32.not_lt.mp c, pg_16 d⟩⟩ hn
theorem pg_isPix1 {a b : Nat} {post : Int32 → Prop} (ha : a < 16) (hb : b < 16) (h : post 1) : wpX_isPixel post (nI a) (nI b) :=
  br_f (nI_pos (by omega)) (br_f (nI_ge (b := 16) ha (by omega)) (br_f (nI_pos (by omega)) (br_f (nI_ge (b := 16) hb (by omega)) h)))
theorem pg_bad1 {st : SY} {x y : Int32} {post : Int32 → Prop} (hn : ¬ (pg_in x ∧ pg_in y)) (h : post 1) : wpY_badPixel post st x y := by
  by_cases a : x < 0
  · exact br_t a h
  by_cases b : 15 < x
  · exact br_f a (br_t b h)
  by_cases c : y < 0
  · exact br_f a (br_f b (br_t c h))
  exact br_f a (br_f b (br_f c (br_f (fun d => hn ⟨⟨Int32.not_lt.mp a, Int32.not_lt.mp b⟩, ⟨Int32.not_lt.mp c, d⟩⟩) h)))
def i_Rel (k : Nat) (u : SX) (v : SY) : Prop :=
  ∃ (n m : Nat) (C cx cy bc fs : Nat → Int32) (F : Nat → Nat), u = (nI m, nI n, C, cx, cy, bc) ∧ v = (nI n, nI m, cx, cy, fs, C) ∧ n ≤ 12 ∧ m ≤ 4 ∧ (∀ i, i < n → pg_ok (cx i) ∧ pg_ok (cy i)) ∧ pg_G fs bc n m F
theorem i_up {k : Nat} {u : SX} {v : SY} (h : i_Rel k u v) : i_Rel (k + 4) u v := h
theorem i_vc0 : wpX_init (fun u => wpY_init (fun v => i_Rel 0 u v)) :=
  ⟨0, 0, fun _ => 0, fun _ => 0, fun _ => 0, fun _ => 0, fun _ => 0, fun _ => 0, rfl, rfl, Nat.zero_le _, Nat.zero_le _, fun _ h => absurd h (Nat.not_lt_zero _), pg_G_0 _⟩
theorem i_vc_begin {k : Nat} {u : SX} {v : SY} (I : i_Rel k u v) (hk : k + 4 ≤ 2048) (v1 : Int32) (v2 : Int32) : wpX_begin (fun r u' => wpY_begin (fun r' v' => r' = r ∧ i_Rel (k + 4) u' v') v v1 v2) u v1 v2 := by
  obtain ⟨n, m, C, cx, cy, bc, fs, F, rfl, rfl, hn, hm, hc, G⟩ := I
  have K : i_Rel (k + 4) (nI m, nI n, C, cx, cy, bc) (nI n, nI m, cx, cy, fs, C) := ⟨n, m, C, cx, cy, bc, fs, F, rfl, rfl, hn, hm, hc, G⟩
  unfold wpX_begin wpY_begin
  dsimp only
  by_cases t1 : pg_ok v1
  · by_cases t2 : pg_ok v2
    · refine pg_pt1 t1 t2 (br_f pg_one ?_)
      by_cases c4 : m = 4
      · refine br_t (nI_le (a := 4) (by omega) (by omega)) (pg_out0 t1 (br_t rfl (pg_out0 t2 (br_t rfl (br_t ?_ ⟨rfl, K⟩)))))
        rw [c4]
        rfl
      · have m4 : ¬ nI m = 4 := fun z => c4 ((nI_eq (b := 4) (by omega) (by omega)).mp z)
        refine br_f (nI_ge (b := 4) (by omega) (by omega)) ?_
        by_cases c12 : n = 12
        · refine br_f (nI_nlt (b := 12) (by omega) (by omega)) (pg_out0 t1 (br_t rfl (pg_out0 t2 (br_t rfl (br_f m4 (br_t ?_ ⟨rfl, K⟩))))))
          rw [c12]
          rfl
        · have n12 : ¬ nI n = 12 := fun z => c12 ((nI_eq (b := 12) (by omega) (by omega)).mp z)
          have vn : vp_in (nI n) 12 := vp_in_nI (by omega) (by omega)
          have vm : vp_in (nI m) 5 := vp_in_nI (by omega) (by omega)
          have vm1 : vp_in (nI (m + 1)) 5 := vp_in_nI (by omega) (by omega)
          have en : (nI n).toNatClampNeg = n := nI_clamp (by omega)
          have em : (nI m).toNatClampNeg = m := nI_clamp (by omega)
          have em1 : (nI (m + 1)).toNatClampNeg = m + 1 := nI_clamp (by omega)
          refine br_t (nI_lt (b := 12) (by omega) (by omega)) ⟨vn, nm_e ⟨vn, nm_e ⟨vn, nm_e (nm_r (nI_1 n) (nm_r (nI_1 m) ?_))⟩⟩⟩
          refine pg_out0 t1 (br_t rfl (pg_out0 t2 (br_t rfl (br_f m4 (br_f n12 ⟨vm, nm_e (nm_r (nI_1 m) ⟨vn, nm_e ⟨vn, nm_e (nm_r (nI_1 n) ⟨vm1, nm_e ⟨rfl, ?_⟩⟩)⟩⟩)⟩)))))
          rw [en, em, em1]
          exact ⟨n + 1, m + 1, C, _, _, _, _, _, rfl, rfl, by omega, by omega, pg_putOk hc t1 t2, pg_G_begin G pg_nar1⟩
    · refine pg_pt0 (fun z => t2 z.2) (br_t rfl ?_)
      exact pg_out0 t1 (br_t rfl (pg_out1 t2 (br_f pg_one ⟨rfl, K⟩)))
  · refine pg_pt0 (fun z => t1 z.1) (br_t rfl ?_)
    exact pg_out1 t1 (br_f pg_one ⟨rfl, K⟩)
theorem i_vc_corner {k : Nat} {u : SX} {v : SY} (I : i_Rel k u v) (hk : k + 4 ≤ 2048) (v1 : Int32) (v2 : Int32) : wpX_corner (fun r u' => wpY_corner (fun r' v' => r' = r ∧ i_Rel (k + 4) u' v') v v1 v2) u v1 v2 := by
  obtain ⟨n, m, C, cx, cy, bc, fs, F, rfl, rfl, hn, hm, hc, G⟩ := I
  have K : i_Rel (k + 4) (nI m, nI n, C, cx, cy, bc) (nI n, nI m, cx, cy, fs, C) := ⟨n, m, C, cx, cy, bc, fs, F, rfl, rfl, hn, hm, hc, G⟩
  unfold wpX_corner wpY_corner
  dsimp only
  by_cases t1 : pg_ok v1
  · by_cases t2 : pg_ok v2
    · refine pg_pt1 t1 t2 (br_f pg_one ?_)
      by_cases c0 : m = 0
      · have m0 : nI m = 0 := by rw [c0]; rfl
        exact br_t m0 (pg_out0 t1 (br_t rfl (pg_out0 t2 (br_t rfl (br_t m0 ⟨rfl, K⟩)))))
      · have m0 : ¬ nI m = 0 := nI_ne0 (by omega) (by omega)
        refine br_f m0 ?_
        by_cases c12 : n = 12
        · refine br_f (nI_nlt (b := 12) (by omega) (by omega)) (pg_out0 t1 (br_t rfl (pg_out0 t2 (br_t rfl (br_f m0 (br_t ?_ ⟨rfl, K⟩))))))
          rw [c12]
          rfl
        · have n12 : ¬ nI n = 12 := fun z => c12 ((nI_eq (b := 12) (by omega) (by omega)).mp z)
          have vn : vp_in (nI n) 12 := vp_in_nI (by omega) (by omega)
          have vm : vp_in (nI m) 5 := vp_in_nI (by omega) (by omega)
          have en : (nI n).toNatClampNeg = n := nI_clamp (by omega)
          have em : (nI m).toNatClampNeg = m := nI_clamp (by omega)
          refine br_t (nI_lt (b := 12) (by omega) (by omega)) ⟨vn, nm_e ⟨vn, nm_e ⟨vn, nm_e (nm_r (nI_1 n) ?_)⟩⟩⟩
          refine pg_out0 t1 (br_t rfl (pg_out0 t2 (br_t rfl (br_f m0 (br_f n12 ⟨vn, nm_e ⟨vn, nm_e (nm_r (nI_1 n) ⟨vm, nm_e ⟨rfl, ?_⟩⟩)⟩⟩)))))
          obtain ⟨q, rfl⟩ : ∃ q, m = q + 1 := ⟨m - 1, by omega⟩
          rw [en, em]
          exact ⟨n + 1, q + 1, C, _, _, _, _, _, rfl, rfl, by omega, by omega, pg_putOk hc t1 t2, pg_G_corner G pg_nar0⟩
    · refine pg_pt0 (fun z => t2 z.2) (br_t rfl ?_)
      exact pg_out0 t1 (br_t rfl (pg_out1 t2 (br_f pg_one ⟨rfl, K⟩)))
  · refine pg_pt0 (fun z => t1 z.1) (br_t rfl ?_)
    exact pg_out1 t1 (br_f pg_one ⟨rfl, K⟩)
theorem i_vc_move {k : Nat} {u : SX} {v : SY} (I : i_Rel k u v) (hk : k + 4 ≤ 2048) (v1 : Int32) (v2 : Int32) : wpX_move (fun r u' => wpY_move (fun r' v' => r' = r ∧ i_Rel (k + 4) u' v') v v1 v2) u v1 v2 := by
  obtain ⟨n, m, C, cx, cy, bc, fs, F, rfl, rfl, hn, hm, hc, G⟩ := I
  rcases pg_move1 (c1 := nI m) (C := C) (bc := bc) (fs := fs) hn hc v1 v2 n 0 (by omega) with ⟨hX, hY⟩ | ⟨h1, hX, hY⟩
  · exact ⟨n + 1, hX _ ⟨n + 1, hY _ ⟨rfl, n, m, C, cx, cy, bc, fs, F, rfl, rfl, hn, hm, hc, G⟩⟩⟩
  · obtain ⟨dx, dy, hd, gX, gY⟩ := pg_move2 (c1 := nI m) (C := C) (bc := bc) (fs := fs) hn v1 v2 n 0 (by omega) cx cy (fun j h => absurd h (Nat.not_lt_zero j)) (fun j h h2 => (h1 j h h2).1) (fun j h => absurd h (Nat.not_lt_zero j)) (fun j h h2 => (h1 j h h2).2)
    exact ⟨n + 1, hX _ ⟨n + 1, gX _ ⟨n + 1, hY _ ⟨n + 1, gY _ ⟨rfl, n, m, C, dx, dy, bc, fs, F, rfl, rfl, hn, hm, hd, G⟩⟩⟩⟩⟩
theorem i_vc_mirror {k : Nat} {u : SX} {v : SY} (I : i_Rel k u v) (hk : k + 4 ≤ 2048) : wpX_mirror (fun u' => wpY_mirror (fun v' => i_Rel (k + 4) u' v') v) u := by
  obtain ⟨n, m, C, cx, cy, bc, fs, F, rfl, rfl, hn, hm, hc, G⟩ := I
  obtain ⟨dx, dy, hd, gX, gY⟩ := pg_mirror hn (c1 := nI m) (C := C) (bc := bc) (fs := fs) n 0 (by omega) cx cy (fun j h => (hc j h).1) (fun j h => (hc j h).2)
  exact ⟨n + 1, gX _ ⟨n + 1, gY _ ⟨n, m, C, dx, dy, bc, fs, F, rfl, rfl, hn, hm, hd, G⟩⟩⟩
theorem i_vc_clear {k : Nat} {u : SX} {v : SY} (I : i_Rel k u v) (hk : k + 4 ≤ 2048) : wpX_clear (fun u' => wpY_clear (fun v' => i_Rel (k + 4) u' v') v) u := by
  obtain ⟨n, m, C, cx, cy, bc, fs, F, rfl, rfl, hn, hm, hc, G⟩ := I
  exact ⟨0, 0, C, cx, cy, bc, fs, F, rfl, rfl, Nat.zero_le _, Nat.zero_le _, fun j h => absurd h (Nat.not_lt_zero j), pg_G_clear G⟩
theorem i_vc_paint {k : Nat} {u : SX} {v : SY} (I : i_Rel k u v) (hk : k + 4 ≤ 2048) (v1 : Int32) (v2 : Int32) : wpX_paint (fun r u' => wpY_paint (fun r' v' => r' = r ∧ i_Rel (k + 4) u' v') v v1 (lw_bz v2)) u v1 (lw_bz v2) := by
  obtain ⟨n, m, C, cx, cy, bc, fs, F, rfl, rfl, hn, hm, hc, G⟩ := I
  have K : i_Rel (k + 4) (nI m, nI n, C, cx, cy, bc) (nI n, nI m, cx, cy, fs, C) := ⟨n, m, C, cx, cy, bc, fs, F, rfl, rfl, hn, hm, hc, G⟩
  unfold wpX_paint
  dsimp only
  by_cases a : v1 < 0
  · exact br_t a (br_t rfl (br_t a ⟨rfl, K⟩))
  by_cases b : v1 ≤ 255
  · obtain ⟨r, D, rX, rY⟩ := pg_paint G hn hm hc v1 (lw_bz v2) 256 0 0 0 (by omega) (by omega) (by omega) (by omega) 0 C
    refine br_f a (br_f (Int32.not_lt.mpr b) (br_f pg_one ⟨17, br_f (by decide) ⟨_, rX _ ?_⟩⟩))
    exact br_f a (br_t b ⟨_, rY _ ⟨rfl, n, m, D, cx, cy, bc, fs, F, rfl, rfl, hn, hm, hc, G⟩⟩)
  · exact br_f a (br_t (Int32.not_le.mp b) (br_t rfl (br_f a (br_f b ⟨rfl, K⟩))))
theorem i_vc_wipe {k : Nat} {u : SX} {v : SY} (I : i_Rel k u v) (hk : k + 4 ≤ 2048) (v1 : Int32) : wpX_wipe (fun r u' => wpY_wipe (fun r' v' => r' = r ∧ i_Rel (k + 4) u' v') v v1) u v1 := by
  obtain ⟨n, m, C, cx, cy, bc, fs, F, rfl, rfl, hn, hm, hc, G⟩ := I
  have K : i_Rel (k + 4) (nI m, nI n, C, cx, cy, bc) (nI n, nI m, cx, cy, fs, C) := ⟨n, m, C, cx, cy, bc, fs, F, rfl, rfl, hn, hm, hc, G⟩
  unfold wpX_wipe
  dsimp only
  by_cases a : v1 < 0
  · exact br_t a (br_t rfl (br_t a ⟨rfl, K⟩))
  by_cases b : v1 ≤ 255
  · obtain ⟨D, hX, hY⟩ := pg_wipe (c1 := nI m) (n1 := nI n) (cx := cx) (cy := cy) (bc := bc) (fs := fs) v1 256 0 (by omega) C
    refine br_f a (br_f (Int32.not_lt.mpr b) (br_f pg_one ⟨_, hX _ ?_⟩))
    exact br_f a (br_t b ⟨_, hY _ ⟨rfl, n, m, D, cx, cy, bc, fs, F, rfl, rfl, hn, hm, hc, G⟩⟩)
  · exact br_f a (br_t (Int32.not_le.mp b) (br_t rfl (br_f a (br_f b ⟨rfl, K⟩))))
theorem i_vc_pixel {k : Nat} {u : SX} {v : SY} (I : i_Rel k u v) (hk : k + 4 ≤ 2048) (v1 : Int32) (v2 : Int32) : wpX_pixel (fun r => wpY_pixel (fun r' => r' = r ∧ i_Rel (k + 4) u v) v v1 v2) u v1 v2 := by
  obtain ⟨n, m, C, cx, cy, bc, fs, F, rfl, rfl, hn, hm, hc, G⟩ := I
  have K : i_Rel (k + 4) (nI m, nI n, C, cx, cy, bc) (nI n, nI m, cx, cy, fs, C) := ⟨n, m, C, cx, cy, bc, fs, F, rfl, rfl, hn, hm, hc, G⟩
  unfold wpX_pixel wpY_pixel
  dsimp only
  rcases pg_pix v1 v2 with h | ⟨a, b, ha, hb, rfl, rfl⟩
  · exact pg_isPix0 h (br_t rfl (pg_bad1 h (br_f pg_one ⟨rfl, K⟩)))
  · have h1 : nI a * 16 = nI (a * 16) := pk_mul a 16
    have v : vp_in (nI a * 16 + nI b) 256 := by
      rw [h1, nI_add]
      exact vp_in_nI (by omega) (by omega)
    exact pg_isPix1 ha hb (br_f pg_one ⟨v, pg_bad0 ha hb (br_t rfl ⟨v, rfl, K⟩)⟩)
theorem i_vc_coverage {k : Nat} {u : SX} {v : SY} (I : i_Rel k u v) (hk : k + 4 ≤ 2048) (v1 : Int32) (v2 : Int32) (v3 : Int32) : wpX_coverage (fun r => wpY_coverage (fun r' => r' = r ∧ i_Rel (k + 4) u v) v v1 v2 (lw_bz v3)) u v1 v2 (lw_bz v3) := by
  obtain ⟨n, m, C, cx, cy, bc, fs, F, rfl, rfl, hn, hm, hc, G⟩ := I
  have K : i_Rel (k + 4) (nI m, nI n, C, cx, cy, bc) (nI n, nI m, cx, cy, fs, C) := ⟨n, m, C, cx, cy, bc, fs, F, rfl, rfl, hn, hm, hc, G⟩
  unfold wpX_coverage
  dsimp only
  rcases pg_pix v1 v2 with h | ⟨a, b, ha, hb, rfl, rfl⟩
  · refine pg_isPix0 h (br_t rfl ?_)
    unfold wpY_coverage
    dsimp only
    exact pg_bad1 h (br_f pg_one ⟨rfl, K⟩)
  · obtain ⟨r, rX, rY⟩ := pg_cov G hn hm hc C (lw_bz v3) ha hb
    exact pg_isPix1 ha hb (br_f pg_one (rX _ (rY _ ⟨rfl, K⟩)))
theorem i_vc_area {k : Nat} {u : SX} {v : SY} (I : i_Rel k u v) (hk : k + 4 ≤ 2048) (v1 : Int32) : wpX_area (fun r => wpY_area (fun r' => r' = r ∧ i_Rel (k + 4) u v) v (lw_bz v1)) u (lw_bz v1) := by
  obtain ⟨n, m, C, cx, cy, bc, fs, F, rfl, rfl, hn, hm, hc, G⟩ := I
  have K : i_Rel (k + 4) (nI m, nI n, C, cx, cy, bc) (nI n, nI m, cx, cy, fs, C) := ⟨n, m, C, cx, cy, bc, fs, F, rfl, rfl, hn, hm, hc, G⟩
  obtain ⟨r, rX, rY⟩ := pg_area G hn hm hc C (lw_bz v1) 256 0 0 0 (by omega) (by omega) (by omega) (by omega) 0
  exact ⟨17, br_f (by decide) ⟨_, rX _ ⟨_, rY _ ⟨rfl, K⟩⟩⟩⟩
theorem i_vc_winding {k : Nat} {u : SX} {v : SY} (I : i_Rel k u v) (hk : k + 4 ≤ 2048) (v1 : Int32) (v2 : Int32) : wpX_winding (fun r => wpY_winding (fun r' => r' = r ∧ i_Rel (k + 4) u v) v v1 v2) u v1 v2 := by
  obtain ⟨n, m, C, cx, cy, bc, fs, F, rfl, rfl, hn, hm, hc, G⟩ := I
  have K : i_Rel (k + 4) (nI m, nI n, C, cx, cy, bc) (nI n, nI m, cx, cy, fs, C) := ⟨n, m, C, cx, cy, bc, fs, F, rfl, rfl, hn, hm, hc, G⟩
  unfold wpX_winding
  dsimp only
  by_cases t1 : pg_ok v1
  · by_cases t2 : pg_ok v2
    · obtain ⟨r, rX, rY⟩ := pg_windAt G hn hm hc C t1 t2
      exact pg_pt1 t1 t2 (br_f pg_one (rX _ (rY _ ⟨rfl, K⟩)))
    · refine pg_pt0 (fun z => t2 z.2) (br_t rfl ?_)
      unfold wpY_winding
      dsimp only
      exact pg_out0 t1 (br_t rfl (pg_out1 t2 (br_f pg_one ⟨rfl, K⟩)))
  · refine pg_pt0 (fun z => t1 z.1) (br_t rfl ?_)
    unfold wpY_winding
    dsimp only
    exact pg_out1 t1 (br_f pg_one ⟨rfl, K⟩)
theorem i_vc_rowSum {k : Nat} {u : SX} {v : SY} (I : i_Rel k u v) (hk : k + 4 ≤ 2048) (v1 : Int32) : wpX_rowSum (fun r => wpY_rowSum (fun r' => r' = r ∧ i_Rel (k + 4) u v) v v1) u v1 := by
  obtain ⟨n, m, C, cx, cy, bc, fs, F, rfl, rfl, hn, hm, hc, G⟩ := I
  have K : i_Rel (k + 4) (nI m, nI n, C, cx, cy, bc) (nI n, nI m, cx, cy, fs, C) := ⟨n, m, C, cx, cy, bc, fs, F, rfl, rfl, hn, hm, hc, G⟩
  unfold wpX_rowSum
  dsimp only
  rcases pg_pix v1 0 with h | ⟨a, b, ha, hb, rfl, _⟩
  · refine pg_isPix0 h (br_t rfl ?_)
    by_cases c : v1 < 0
    · exact br_t c ⟨rfl, K⟩
    · refine br_f c (br_f (fun z => h ⟨⟨Int32.not_lt.mp c, z⟩, ⟨by decide, by decide⟩⟩) ⟨rfl, K⟩)
  · obtain ⟨r, rX, rY⟩ := pg_rowSum (c1 := nI m) (n1 := nI n) (C := C) (cx := cx) (cy := cy) (bc := bc) (fs := fs) ha 16 0 (by omega) 0
    refine pg_isPix1 (b := 0) ha (by omega) (br_f pg_one ⟨_, rX _ ?_⟩)
    exact br_f (nI_pos (by omega)) (br_t (nI_le (b := 15) (by omega) (by omega)) ⟨_, rY _ ⟨rfl, K⟩⟩)
end
