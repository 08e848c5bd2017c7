/-! rows taken from kit/rows (pk_, ek_), then this claim's own arithmetic (pg_) -/
theorem pk_us {f : Nat → Int32} {k : Nat} {x : Int32} : upd f k x k = x := if_pos rfl
theorem pk_un {f : Nat → Int32} {k j : Nat} {x : Int32} (h : j ≠ k) : upd f k x j = f j := if_neg h
theorem pk_sub {a b : Nat} (h : b ≤ a) : nI a - nI b = nI (a - b) := by
  obtain ⟨c, rfl⟩ : ∃ c, a = c + b := ⟨a - b, by omega⟩
  rw [← nI_add, Int32.add_sub_cancel, Nat.add_sub_cancel]
theorem pk_m1 (n : Nat) : nI (n + 1) + (-1) = nI n := by
  rw [← nI_1, Int32.add_assoc, show (1 : Int32) + (-1) = 0 from rfl, Int32.add_zero]
theorem pk_mul (a b : Nat) : nI a * nI b = nI (a * b) := (Int32.ofNat_mul a b).symm
theorem pk_div {a d : Nat} (ha : a < 2 ^ 31) (h0 : 0 < d) (hd : d < 2 ^ 31) : nI a / nI d = nI (a / d) := by
  apply Int32.toInt_inj.mp
  rw [lg_idiv_nonneg (by rw [nI_toInt ha]; omega) (by rw [nI_toInt hd]; omega), nI_toInt ha, nI_toInt hd, nI_toInt (Nat.lt_of_le_of_lt (Nat.div_le_self a d) ha)]
  first | rfl | exact (Int.natCast_ediv _ _).symm
theorem pk_rem {a d : Nat} (ha : a < 2 ^ 31) (h0 : 0 < d) (hd : d < 2 ^ 31) : nI a - nI a / nI d * nI d = nI (a % d) := by
  rw [pk_div ha h0 hd, pk_mul, pk_sub (Nat.div_mul_le_self a d)]
  exact congrArg nI (by have := Nat.div_add_mod' a d; omega)
theorem pk_sub_toInt {a b : Nat} (ha : a < 2 ^ 30) (hb : b < 2 ^ 30) : (nI a - nI b).toInt = (a : Int) - b := by
  rw [Int32.toInt_sub, nI_toInt (by omega), nI_toInt (by omega)]
  exact Int.bmod_eq_of_le (by omega) (by omega)
theorem pk_le {x y : Int32} {A B : Prop} (a b : Nat) (f : a ≤ b → A) (g : b < a → B) (hx : x = nI a := by rfl) (hy : y = nI b := by rfl) (ha : a < 2 ^ 31 := by omega) (hb : b < 2 ^ 31 := by omega) : (x ≤ y → A) ∧ (¬ x ≤ y → B) := by
  subst hx hy
  rw [nI_leI ha hb]
  exact ⟨f, fun z => g (by omega)⟩
theorem pk_lt {x y : Int32} {A B : Prop} (a b : Nat) (f : a < b → A) (g : b ≤ a → B) (hx : x = nI a := by rfl) (hy : y = nI b := by rfl) (ha : a < 2 ^ 31 := by omega) (hb : b < 2 ^ 31 := by omega) : (x < y → A) ∧ (¬ x < y → B) := by
  subst hx hy
  rw [nI_ltI ha hb]
  exact ⟨f, fun z => g (by omega)⟩
theorem pk_eq {x y : Int32} {A B : Prop} (a b : Nat) (f : a = b → A) (g : a ≠ b → B) (hx : x = nI a := by rfl) (hy : y = nI b := by rfl) (ha : a < 2 ^ 31 := by omega) (hb : b < 2 ^ 31 := by omega) : (x = y → A) ∧ (¬ x = y → B) := by
  subst hx hy
  rw [nI_eq ha hb]
  exact ⟨f, g⟩
theorem pk_in {x : Int32} (n N : Nat) (h : n < N) (hx : x = nI n := by rfl) (hN : N < 2 ^ 31 := by omega) : vp_in x N := by
  subst hx
  exact vp_in_nI h hN
theorem pk_cl {x : Int32} (n : Nat) (hx : x = nI n := by rfl) (h : n < 2 ^ 31 := by omega) : x.toNatClampNeg = n := by
  subst hx
  exact nI_clamp h
theorem pk_loop {σ : Type} (W : Nat → Nat → σ → Prop) (I : Nat → σ → Prop) (e i0 : Nat) (s : σ) (hi : i0 ≤ e) (h0 : I i0 s) (hx : ∀ n s, I e s → W (n + 1) e s)
    (hs : ∀ n i s, i < e → I i s → (∀ s', I (i + 1) s' → W n (i + 1) s') → W (n + 1) i s) : ∃ n, W n i0 s :=
  ⟨e + 1, loop_i W I e hx hs (e + 1) i0 s hi (by omega) h0⟩
theorem ek_if {c d A B : Prop} (e : c ↔ d) (f : d → A) (g : ¬ d → B) : (c → A) ∧ (¬ c → B) :=
  ⟨fun z => f (e.mp z), fun z => g (fun y => z (e.mpr y))⟩
theorem ek_v {α : Sort _} {P : α → Prop} {a b : α} (e : a = b) (h : P b) : P a := e ▸ h
/-- a coordinate: 0 to 64 -/
def pg_ok (v : Int32) : Prop := 0 ≤ v ∧ v ≤ 64
theorem pg_64 : (64 : Int32).toInt = 64 := by decide
theorem pg_0T : (0 : Int32).toInt = 0 := by decide
theorem pg_m64 : (-64 : Int32).toInt = -64 := by decide
theorem pg_okT {v : Int32} : pg_ok v ↔ 0 ≤ v.toInt ∧ v.toInt ≤ 64 := by
  unfold pg_ok
  rw [Int32.le_iff_toInt_le, Int32.le_iff_toInt_le, pg_64, pg_0T]
theorem pg_okN {n : Nat} (h : n ≤ 64) : pg_ok (nI n) := pg_okT.mpr (by rw [nI_toInt (by omega)]; omega)
theorem pg_sub {a b : Int32} (ha : pg_ok a) (hb : pg_ok b) : (a - b).toInt = a.toInt - b.toInt ∧ -64 ≤ (a - b).toInt ∧ (a - b).toInt ≤ 64 := by
  rw [pg_okT] at ha hb
  have e : (a - b).toInt = a.toInt - b.toInt := by
    rw [Int32.toInt_sub]
    exact Int.bmod_eq_of_le (by omega) (by omega)
  exact ⟨e, by omega, by omega⟩
theorem pg_ib {u v : Int} (hu : -64 ≤ u ∧ u ≤ 64) (hv : -64 ≤ v ∧ v ≤ 64) : -4096 ≤ u * v ∧ u * v ≤ 4096 := by
  have h : (u * v).natAbs ≤ 64 * 64 := by
    rw [Int.natAbs_mul]
    exact Nat.mul_le_mul (by omega) (by omega)
  generalize u * v = w at h ⊢
  omega
theorem pg_mulT {p q : Int32} (hp : -64 ≤ p.toInt ∧ p.toInt ≤ 64) (hq : -64 ≤ q.toInt ∧ q.toInt ≤ 64) : (p * q).toInt = p.toInt * q.toInt := by
  have h := pg_ib hp hq
  rw [Int32.toInt_mul]
  generalize p.toInt * q.toInt = w at h ⊢
  exact Int.bmod_eq_of_le (by omega) (by omega)
theorem pg_addT {p q : Int32} (hp : -4096 ≤ p.toInt ∧ p.toInt ≤ 4096) (hq : -4096 ≤ q.toInt ∧ q.toInt ≤ 4096) : (p + q).toInt = p.toInt + q.toInt := by
  rw [Int32.toInt_add]
  exact Int.bmod_eq_of_le (by omega) (by omega)
/-- the component's test of an edge's side and the reference's: nothing wraps around -/
theorem pg_side {a b c d x y : Int32} (ha : pg_ok a) (hb : pg_ok b) (hc : pg_ok c) (hd : pg_ok d) (hx : pg_ok x) (hy : pg_ok y) :
    ((a - x) * (d - c) + (y - c) * (b - a) ≤ 0) ↔ ((b - a) * (y - c) ≤ (x - a) * (d - c)) := by
  obtain ⟨e1, b1⟩ := pg_sub ha hx
  obtain ⟨e5, b5⟩ := pg_sub hx ha
  have b2 := (pg_sub hd hc).2
  have b3 := (pg_sub hy hc).2
  have b4 := (pg_sub hb ha).2
  have m1 := pg_mulT b1 b2
  have m2 := pg_mulT b3 b4
  have m3 := pg_mulT b4 b3
  have m4 := pg_mulT b5 b2
  have i1 := pg_ib b1 b2
  have i2 := pg_ib b3 b4
  rw [← m1] at i1
  rw [← m2] at i2
  have s := pg_addT i1 i2
  have k1 : (x - a).toInt = -(a - x).toInt := by omega
  rw [k1, Int.neg_mul] at m4
  rw [Int.mul_comm] at m3
  rw [Int32.le_iff_toInt_le, Int32.le_iff_toInt_le, s, m1, m2, m3, m4, pg_0T]
  generalize (a - x).toInt * (d - c).toInt = w1
  generalize (y - c).toInt * (b - a).toInt = w2
  omega
/-- what a moved coordinate that is still one says of the step -/
theorem pg_mv {a d : Int32} (ha : pg_ok a) (h : pg_ok (a + d)) : ¬ d < -64 ∧ d ≤ 64 := by
  have e := (pg_sub h ha).2
  rw [Int32.add_comm a d, Int32.add_sub_cancel] at e
  rw [Int32.lt_iff_toInt_lt, Int32.le_iff_toInt_le, pg_64, pg_m64]
  omega
