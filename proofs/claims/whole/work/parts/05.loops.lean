/-! paint, wipe, mirror, move, rowSum: both sides in lockstep -/
theorem pg_blend {c1 n1 : Int32} {C cx cy bc : Nat → Int32} {p x k : Int32} {post : SX → Prop} (hp : vp_in p 256)
    (h : post (c1, n1, upd C p.toNatClampNeg ((C p.toNatClampNeg * (4 - k) + x * k) / 4), cx, cy, bc)) : wpX_blend post (c1, n1, C, cx, cy, bc) p x k :=
  ⟨hp, nm_e ⟨by decide, hp, nm_e h⟩⟩
theorem pg_paint {n m : Nat} {cx cy bc fs : Nat → Int32} {F : Nat → Nat} (G : pg_G fs bc n m F) (hn : n ≤ 12) (hm : m ≤ 4) (hc : ∀ i, i < n → pg_ok (cx i) ∧ pg_ok (cy i)) (x o : Int32) :
    ∀ d p a b, p + d = 256 → p = 16 * a + b → a < 16 → b < 16 → ∀ (s : Int32) (C : Nat → Int32),
    ∃ (r : Int32) (D : Nat → Int32), (∀ post : Int32 → SX → Prop, post r (nI m, nI n, D, cx, cy, bc) → wX_paint_25 post (wX_paint_15 post x o (16 - a)) x o (nI a) (16 - b + 1) s (nI b) (nI m) (nI n) C cx cy bc) ∧
      (∀ post : Int32 → SY → Prop, post r (nI n, nI m, cx, cy, fs, D) → wY_paint_19 post x o (nI n) (nI m) (d + 1) s (nI p) cx cy fs C) := by
  intro d
  induction d with
  | zero =>
    intro p a b e1 e2 ha hb
    omega
  | succ d ih =>
    intro p a b e1 e2 ha hb s C
    obtain ⟨k, kX, kY⟩ := pg_cov G hn hm hc C o ha hb
    have q16 : ¬ (16 : Int32) ≤ nI b := nI_ge (b := 16) hb (by omega)
    have q256 : ¬ (256 : Int32) ≤ nI p := nI_ge (b := 256) (by omega) (by omega)
    have d1 := pg_div16 e2 hb (by omega)
    have d2 := pg_rem16 e2 hb (by omega)
    have ix : nI a * 16 + nI b = nI p := by
      have h1 : nI a * 16 = nI (a * 16) := pk_mul a 16
      rw [h1, nI_add]
      exact congrArg nI (by omega)
    have vp : vp_in (nI p) 256 := vp_in_nI (by omega) (by omega)
    generalize hs : (if k ≤ 0 then s else s + 1) = s'
    generalize hC : upd C (nI p).toNatClampNeg ((C (nI p).toNatClampNeg * (4 - k) + x * k) / 4) = C'
    have sX : ∀ (post : Int32 → SX → Prop) (J : Int32 → Int32 → Int32 → Int32 → (Nat → Int32) → (Nat → Int32) → (Nat → Int32) → (Nat → Int32) → Prop) (N : Nat),
        wX_paint_25 post J x o (nI a) N s' (nI (b + 1)) (nI m) (nI n) C' cx cy bc → wX_paint_25 post J x o (nI a) (N + 1) s (nI b) (nI m) (nI n) C cx cy bc := by
      intro post J N h
      refine br_f q16 (kX _ ?_)
      rw [ix]
      refine pg_blend vp ?_
      rw [hC]
      subst hs
      exact pg_bx (P := fun u v => wX_paint_25 post J x o (nI a) N u v (nI m) (nI n) C' cx cy bc) (nI_1 b) h
    have sY : ∀ (post : Int32 → SY → Prop) (N : Nat), wY_paint_19 post x o (nI n) (nI m) N s' (nI (p + 1)) cx cy fs C' → wY_paint_19 post x o (nI n) (nI m) (N + 1) s (nI p) cx cy fs C := by
      intro post N h
      refine br_f q256 ⟨by decide, by decide, ?_⟩
      rw [d2, d1]
      refine kY _ ?_
      subst hs
      refine pg_by (P := fun u => wY_paint_52 post (wY_paint_19 post x o (nI n) (nI m) N) x o u (nI p) k (nI n) (nI m) cx cy fs C) ?_
      exact ⟨vp, by decide, vp, nm_r hC (nm_r (nI_1 p) h)⟩
    by_cases c1 : b + 1 < 16
    · obtain ⟨r, D, rX, rY⟩ := ih (p + 1) a (b + 1) (by omega) (by omega) ha c1 s' C'
      refine ⟨r, D, fun post h => ?_, fun post h => sY post _ (rY post h)⟩
      rw [show 16 - b = 16 - (b + 1) + 1 by omega]
      exact sX post _ _ (rX post h)
    · have b15 : b = 15 := by omega
      subst b15
      by_cases c2 : a + 1 < 16
      · obtain ⟨r, D, rX, rY⟩ := ih (p + 1) (a + 1) 0 (by omega) (by omega) c2 (by omega) s' C'
        refine ⟨r, D, fun post h => ?_, fun post h => sY post _ (rY post h)⟩
        rw [show 16 - a = 16 - (a + 1) + 1 by omega]
        exact sX post _ 1 (br_t (nI_le (a := 16) (b := 16) (by omega) (by omega)) (nm_r (nI_1 a) (br_f (nI_ge (b := 16) c2 (by omega)) ⟨_, rX post h⟩)))
      · have a15 : a = 15 := by omega
        have d0 : d = 0 := by omega
        have p255 : p = 255 := by omega
        subst a15
        subst d0
        subst p255
        exact ⟨s', C', fun post h => sX post _ 1 (br_t (nI_le (a := 16) (b := 16) (by omega) (by omega)) (nm_r (nI_1 15) (br_t (nI_le (a := 16) (b := 16) (by omega) (by omega)) h))), fun post h => sY post _ (br_t (nI_le (a := 256) (b := 256) (by omega) (by omega)) h)⟩
theorem pg_wipe {c1 n1 : Int32} {cx cy bc fs : Nat → Int32} (x : Int32) :
    ∀ d i, i + d = 256 → ∀ C : Nat → Int32, ∃ D : Nat → Int32,
    (∀ post : Int32 → SX → Prop, post 0 (c1, n1, D, cx, cy, bc) → wX_wipe_12 post x c1 n1 (d + 1) (nI i) C cx cy bc) ∧
    (∀ post : Int32 → SY → Prop, post 0 (n1, c1, cx, cy, fs, D) → wY_wipe_16 post x n1 c1 (d + 1) (nI i) cx cy fs C) := by
  intro d
  induction d with
  | zero =>
    intro i e C
    have q : (256 : Int32) ≤ nI i := nI_le (a := 256) (by omega) (by omega)
    exact ⟨C, fun post h => br_t q h, fun post h => br_t q h⟩
  | succ d ih =>
    intro i e C
    have q : ¬ (256 : Int32) ≤ nI i := nI_ge (b := 256) (by omega) (by omega)
    have v : vp_in (nI i) 256 := vp_in_nI (by omega) (by omega)
    obtain ⟨D, hX, hY⟩ := ih (i + 1) (by omega) (upd C (nI i).toNatClampNeg x)
    exact ⟨D, fun post h => br_f q ⟨v, nm_e (nm_r (nI_1 i) (hX post h))⟩, fun post h => br_f q ⟨v, nm_e (nm_r (nI_1 i) (hY post h))⟩⟩
theorem pg_updOk {f : Nat → Int32} {i n : Nat} {v : Int32} (h : ∀ j, j < n → pg_ok (f j)) (hv : pg_ok v) : ∀ j, j < n → pg_ok (upd f i v j) := by
  intro j hj
  by_cases e : j = i
  · rw [e, pk_us]
    exact hv
  · rw [pk_un e]
    exact h j hj
theorem pg_mirror {n : Nat} (hn : n ≤ 12) {c1 : Int32} {C bc fs : Nat → Int32} :
    ∀ d i, i + d = n → ∀ cx cy : Nat → Int32, (∀ j, j < n → pg_ok (cx j)) → (∀ j, j < n → pg_ok (cy j)) → ∃ dx dy : Nat → Int32, (∀ j, j < n → pg_ok (dx j) ∧ pg_ok (dy j)) ∧
    (∀ post : SX → Prop, post (c1, nI n, C, dx, dy, bc) → wX_mirror_2 post c1 (nI n) (d + 1) (nI i) C cx cy bc) ∧
    (∀ post : SY → Prop, post (nI n, c1, dx, dy, fs, C) → wY_mirror_2 post (nI n) c1 (d + 1) (nI i) cx cy fs C) := by
  intro d
  induction d with
  | zero =>
    intro i e cx cy h1 h2
    have q : nI n ≤ nI i := nI_le (by omega) (by omega)
    exact ⟨cx, cy, fun j hj => ⟨h1 j hj, h2 j hj⟩, fun post h => br_t q h, fun post h => br_t q h⟩
  | succ d ih =>
    intro i e cx cy h1 h2
    have q : ¬ nI n ≤ nI i := nI_ge (by omega) (by omega)
    have v : vp_in (nI i) 12 := vp_in_nI (by omega) (by omega)
    have ei : (nI i).toNatClampNeg = i := nI_clamp (by omega)
    obtain ⟨dx, dy, hd, hX, hY⟩ := ih (i + 1) (by omega) (upd cx (nI i).toNatClampNeg (cy (nI i).toNatClampNeg)) (upd cy (nI i).toNatClampNeg (cx (nI i).toNatClampNeg))
      (pg_updOk h1 (by rw [ei]; exact h2 i (by omega))) (pg_updOk h2 (by rw [ei]; exact h1 i (by omega)))
    exact ⟨dx, dy, hd, fun post h => br_f q ⟨v, nm_e ⟨v, v, nm_e ⟨v, nm_e (nm_r (nI_1 i) (hX post h))⟩⟩⟩, fun post h => br_f q ⟨v, nm_e ⟨v, v, nm_e ⟨v, nm_e (nm_r (nI_1 i) (hY post h))⟩⟩⟩⟩
/-- a step of the second loop of move: the corners below i have moved, the others are still to move -/
theorem pg_updMv {f : Nat → Int32} {i n : Nat} {x : Int32} (hi : i < n) (h1 : ∀ j, j < i → pg_ok (f j)) (h2 : ∀ j, i ≤ j → j < n → pg_ok (f j + x)) :
    (∀ j, j < i + 1 → pg_ok (upd f i (f i + x) j)) ∧ (∀ j, i + 1 ≤ j → j < n → pg_ok (upd f i (f i + x) j + x)) := by
  constructor
  · intro j hj
    by_cases e : j = i
    · rw [e, pk_us]
      exact h2 i (Nat.le_refl i) hi
    · rw [pk_un e]
      exact h1 j (by omega)
  · intro j hj hj2
    rw [pk_un (by omega)]
    exact h2 j (by omega) hj2
theorem pg_move2 {n : Nat} (hn : n ≤ 12) {c1 : Int32} {C bc fs : Nat → Int32} (x y : Int32) :
    ∀ d i, i + d = n → ∀ cx cy : Nat → Int32, (∀ j, j < i → pg_ok (cx j)) → (∀ j, i ≤ j → j < n → pg_ok (cx j + x)) → (∀ j, j < i → pg_ok (cy j)) → (∀ j, i ≤ j → j < n → pg_ok (cy j + y)) →
    ∃ dx dy : Nat → Int32, (∀ j, j < n → pg_ok (dx j) ∧ pg_ok (dy j)) ∧
    (∀ post : Int32 → SX → Prop, post (nI n) (c1, nI n, C, dx, dy, bc) → wX_move_42 post x y c1 (nI n) (d + 1) (nI i) C cx cy bc) ∧
    (∀ post : Int32 → SY → Prop, post (nI n) (nI n, c1, dx, dy, fs, C) → wY_move_74 post x y (nI n) c1 (d + 1) (nI i) cx cy fs C) := by
  intro d
  induction d with
  | zero =>
    intro i e cx cy h1 h2 h3 h4
    have q : nI n ≤ nI i := nI_le (by omega) (by omega)
    exact ⟨cx, cy, fun j hj => ⟨h1 j (by omega), h3 j (by omega)⟩, fun post h => br_t q h, fun post h => br_t q h⟩
  | succ d ih =>
    intro i e cx cy h1 h2 h3 h4
    have q : ¬ nI n ≤ nI i := nI_ge (by omega) (by omega)
    have v : vp_in (nI i) 12 := vp_in_nI (by omega) (by omega)
    have ei : (nI i).toNatClampNeg = i := nI_clamp (by omega)
    obtain ⟨a1, a2⟩ := pg_updMv (show i < n by omega) h1 h2
    obtain ⟨b1, b2⟩ := pg_updMv (show i < n by omega) h3 h4
    obtain ⟨dx, dy, hd, hX, hY⟩ := ih (i + 1) (by omega) _ _ a1 a2 b1 b2
    have ex : upd cx (nI i).toNatClampNeg (cx (nI i).toNatClampNeg + x) = upd cx i (cx i + x) := by rw [ei]
    have ey : upd cy (nI i).toNatClampNeg (cy (nI i).toNatClampNeg + y) = upd cy i (cy i + y) := by rw [ei]
    exact ⟨dx, dy, hd, fun post h => br_f q ⟨v, v, nm_r ex ⟨v, v, nm_r ey (nm_r (nI_1 i) (hX post h))⟩⟩, fun post h => br_f q ⟨v, v, nm_r ex ⟨v, v, nm_r ey (nm_r (nI_1 i) (hY post h))⟩⟩⟩
theorem pg_move1 {n : Nat} (hn : n ≤ 12) {c1 : Int32} {C cx cy bc fs : Nat → Int32} (hc : ∀ i, i < n → pg_ok (cx i) ∧ pg_ok (cy i)) (x y : Int32) :
    ∀ d i, i + d = n →
    ((∀ post : Int32 → SX → Prop, post (-1) (c1, nI n, C, cx, cy, bc) → wX_move_2 post x y c1 (nI n) C cx cy bc (d + 1) (nI i)) ∧
     (∀ post : Int32 → SY → Prop, post (-1) (nI n, c1, cx, cy, fs, C) → wY_move_2 post x y (nI n) c1 cx cy fs C (d + 1) (nI i))) ∨
    ((∀ j, i ≤ j → j < n → pg_ok (cx j + x) ∧ pg_ok (cy j + y)) ∧
     (∀ post : Int32 → SX → Prop, (∃ k : Nat, wX_move_42 post x y c1 (nI n) k 0 C cx cy bc) → wX_move_2 post x y c1 (nI n) C cx cy bc (d + 1) (nI i)) ∧
     (∀ post : Int32 → SY → Prop, (∃ k : Nat, wY_move_74 post x y (nI n) c1 k 0 cx cy fs C) → wY_move_2 post x y (nI n) c1 cx cy fs C (d + 1) (nI i))) := by
  intro d
  induction d with
  | zero =>
    intro i e
    have q : nI n ≤ nI i := nI_le (by omega) (by omega)
    exact Or.inr ⟨fun j h1 h2 => by omega, fun post h => br_t q h, fun post h => br_t q h⟩
  | succ d ih =>
    intro i e
    have q : ¬ nI n ≤ nI i := nI_ge (by omega) (by omega)
    have v : vp_in (nI i) 12 := vp_in_nI (by omega) (by omega)
    have ei : (nI i).toNatClampNeg = i := nI_clamp (by omega)
    obtain ⟨ax, ay⟩ := hc i (by omega)
    by_cases t : pg_ok (cx i + x) ∧ pg_ok (cy i + y)
    · obtain ⟨x1, x2⟩ := pg_mv ax t.1
      obtain ⟨y1, y2⟩ := pg_mv ay t.2
      have x3 : ¬ 64 < x := Int32.not_lt.mpr x2
      have y3 : ¬ 64 < y := Int32.not_lt.mpr y2
      have tx : pg_ok (cx (nI i).toNatClampNeg + x) := by rw [ei]; exact t.1
      have ty : pg_ok (cy (nI i).toNatClampNeg + y) := by rw [ei]; exact t.2
      have sX : ∀ post : Int32 → SX → Prop, wX_move_2 post x y c1 (nI n) C cx cy bc (d + 1) (nI (i + 1)) → wX_move_2 post x y c1 (nI n) C cx cy bc (d + 1 + 1) (nI i) :=
        fun post h => br_f q ⟨v, v, pg_pt1 tx ty (br_f pg_one (nm_r (nI_1 i) h))⟩
      have sY : ∀ post : Int32 → SY → Prop, wY_move_2 post x y (nI n) c1 cx cy fs C (d + 1) (nI (i + 1)) → wY_move_2 post x y (nI n) c1 cx cy fs C (d + 1 + 1) (nI i) :=
        fun post h => br_f q (br_f x1 (br_f x3 (br_f y1 (br_f y3 ⟨v, pg_out0 tx (br_t rfl ⟨v, pg_out0 ty (br_t rfl (nm_r (nI_1 i) h))⟩)⟩))))
      rcases ih (i + 1) (by omega) with ⟨hX, hY⟩ | ⟨h1, hX, hY⟩
      · exact Or.inl ⟨fun post h => sX post (hX post h), fun post h => sY post (hY post h)⟩
      · refine Or.inr ⟨fun j h2 h3 => ?_, fun post h => sX post (hX post h), fun post h => sY post (hY post h)⟩
        by_cases e2 : j = i
        · rw [e2]
          exact t
        · exact h1 j (by omega) h3
    · refine Or.inl ⟨fun post h => br_f q ⟨v, v, pg_pt0 (by rw [ei]; exact t) (br_t rfl h)⟩, fun post h => br_f q ?_⟩
      by_cases x1 : x < -64
      · exact br_t x1 h
      refine br_f x1 ?_
      by_cases x3 : 64 < x
      · exact br_t x3 h
      refine br_f x3 ?_
      by_cases y1 : y < -64
      · exact br_t y1 h
      refine br_f y1 ?_
      by_cases y3 : 64 < y
      · exact br_t y3 h
      refine br_f y3 ⟨v, ?_⟩
      by_cases tx : pg_ok (cx i + x)
      · refine pg_out0 (by rw [ei]; exact tx) (br_t rfl ⟨v, pg_out1 ?_ (br_f pg_one h)⟩)
        rw [ei]
        exact fun z => t ⟨tx, z⟩
      · exact pg_out1 (by rw [ei]; exact tx) (br_f pg_one h)
theorem pg_rowSum {c1 n1 : Int32} {C cx cy bc fs : Nat → Int32} {a : Nat} (ha : a < 16) :
    ∀ d b, b + d = 16 → ∀ s : Int32, ∃ r : Int32,
    (∀ post : Int32 → Prop, post r → wX_rowSum_15 post (nI a) c1 n1 C cx cy bc (d + 1) s (nI b)) ∧ (∀ post : Int32 → Prop, post r → wY_rowSum_17 post (nI a) n1 c1 cx cy fs C (d + 1) s (nI b)) := by
  intro d
  induction d with
  | zero =>
    intro b e s
    have q : (16 : Int32) ≤ nI b := nI_le (a := 16) (by omega) (by omega)
    exact ⟨s, fun post h => br_t q h, fun post h => br_t q h⟩
  | succ d ih =>
    intro b e s
    have q : ¬ (16 : Int32) ≤ nI b := nI_ge (b := 16) (by omega) (by omega)
    have h1 : nI a * 16 = nI (a * 16) := pk_mul a 16
    have v : vp_in (nI a * 16 + nI b) 256 := by
      rw [h1, nI_add]
      exact vp_in_nI (by omega) (by omega)
    obtain ⟨r, hX, hY⟩ := ih (b + 1) (by omega) (s + C (nI a * 16 + nI b).toNatClampNeg)
    exact ⟨r, fun post h => br_f q ⟨v, nm_e (nm_r (nI_1 b) (hX post h))⟩, fun post h => br_f q ⟨v, nm_e (nm_r (nI_1 b) (hY post h))⟩⟩
