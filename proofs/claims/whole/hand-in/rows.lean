section
theorem pk_us {f : Nat → Int32} {k : Nat} {x : Int32} : upd f k x k = x := if_pos rfl
theorem pk_un {f : Nat → Int32} {k j : Nat} {x : Int32} (h : j ≠ k) : upd f k x j = f j := if_neg h
theorem pk_sub {a b : Nat} (h : b ≤ a) : nI a - nI b = nI (a - b) := by
  obtain ⟨c, rfl⟩ : ∃ c, a = c + b := ⟨a - b, by omega⟩
  rw [← nI_add, Int32.add_sub_cancel, Nat.add_sub_cancel]
theorem pk_m1 (n : Nat) : nI (n + 1) + (-1) = nI n := by
  rw [← nI_1, Int32.add_assoc, show (1 : Int32) + (-1) = 0 from rfl, Int32.add_zero]
theorem pk_mul (a b : Nat) : nI a * nI b = nI (a * b) := (Int32.ofNat_mul a b).symm
theorem pk_ix (x : Int32) {n : Nat} (hn : n < 2 ^ 31) : x < 0 ∨ nI n ≤ x ∨ ∃ j : Nat, j < n ∧ x = nI j := by
  by_cases h : x < 0
  · exact Or.inl h
  · obtain ⟨j, hj, rfl⟩ := nI_of h
    by_cases h2 : j < n
    · exact Or.inr (Or.inr ⟨j, h2, rfl⟩)
    · exact Or.inr (Or.inl (nI_le (by omega) hj))
theorem cb_16 : (16 : Int32) = nI 16 := by decide +kernel
theorem cb_96 : (96 : Int32) = nI 96 := by decide +kernel
theorem cb_6 : (6 : Int32) = nI 6 := by decide +kernel
theorem cb_5 : (5 : Int32) = nI 5 := by decide +kernel
/-- an argument that isn't one of 0 .. n - 1 -/
def cb_out (x : Int32) (n : Nat) : Prop := x < 0 ∨ nI n ≤ x
theorem cb_split (x : Int32) {n : Nat} (hn : n < 2 ^ 31) : cb_out x n ∨ ∃ j : Nat, j < n ∧ x = nI j := by
  rcases pk_ix x hn with h | h | h
  · exact Or.inl (Or.inl h)
  · exact Or.inl (Or.inr h)
  · exact Or.inr h
theorem cb_gt {x : Int32} {n : Nat} (hn : n + 1 < 2 ^ 31) (h : nI (n + 1) ≤ x) : nI n < x := by
  rw [Int32.le_iff_toInt_le, nI_toInt hn] at h
  rw [Int32.lt_iff_toInt_lt, nI_toInt (by omega)]
  omega
/-! the tests of block, chain, backup, as each side makes them -/
theorem cb_xblkO {post : Int32 → Prop} {x : Int32} (h : cb_out x 16) (hp : post 0) : wpX_isBlock post x := by
  by_cases h0 : x < 0
  · exact br_t h0 hp
  · have h1 : (16 : Int32) ≤ x := by rw [cb_16]; exact h.resolve_left h0
    exact br_f h0 (br_t h1 hp)
theorem cb_xblk {post : Int32 → Prop} {b : Nat} (h : b < 16) (hp : post 1) : wpX_isBlock post (nI b) :=
  br_f (nI_pos (by omega)) (br_f (nI_ge (b := 16) h (by decide)) hp)
theorem cb_ygO {x : Int32} {A B : Prop} (h : cb_out x 16) (a : A) : (x < 0 → A) ∧ (¬ x < 0 → ((15 < x → A) ∧ (¬ 15 < x → B))) := by
  by_cases h0 : x < 0
  · exact br_t h0 a
  · exact br_f h0 (br_t (cb_gt (n := 15) (by decide) (h.resolve_left h0)) a)
theorem cb_yg {b : Nat} {A B : Prop} (h : b < 16) (hb : B) : (nI b < 0 → A) ∧ (¬ nI b < 0 → ((15 < nI b → A) ∧ (¬ 15 < nI b → B))) :=
  br_f (nI_pos (by omega)) (br_f (nI_nlt (a := 15) (b := b) (by omega) (by decide)) hb)
theorem cb_ylO {x : Int32} {A B : Prop} (h : cb_out x 16) (a : A) : (x < 0 → A) ∧ (¬ x < 0 → ((x ≤ 15 → B) ∧ (¬ x ≤ 15 → A))) := by
  by_cases h0 : x < 0
  · exact br_t h0 a
  · exact br_f h0 (br_f (Int32.not_le.mpr (cb_gt (n := 15) (by decide) (h.resolve_left h0))) a)
theorem cb_yl {b : Nat} {A B : Prop} (h : b < 16) (hb : B) : (nI b < 0 → A) ∧ (¬ nI b < 0 → ((nI b ≤ 15 → B) ∧ (¬ nI b ≤ 15 → A))) :=
  br_f (nI_pos (by omega)) (br_t (nI_le (a := b) (b := 15) (by omega) (by decide)) hb)
theorem cb_xchO {post : Int32 → Prop} {x : Int32} (h : cb_out x 2) (hp : post 0) : wpX_isChain post x := by
  by_cases h0 : x < 0
  · exact br_t h0 hp
  · exact br_f h0 (br_t (h.resolve_left h0) hp)
theorem cb_xch {post : Int32 → Prop} {a : Nat} (h : a < 2) (hp : post 1) : wpX_isChain post (nI a) :=
  br_f (nI_pos (by omega)) (br_f (nI_ge (b := 2) h (by decide)) hp)
theorem cb_ychO {post : Int32 → Prop} {d w c kp : Nat → Int32} {x : Int32} (h : cb_out x 2) (hp : post 1) : wpY_badChain post (d, w, c, kp) x := by
  by_cases h0 : x < 0
  · exact br_t h0 hp
  · exact br_f h0 (br_f (Int32.not_le.mpr (cb_gt (n := 1) (by decide) (h.resolve_left h0))) hp)
theorem cb_ych {post : Int32 → Prop} {d w c kp : Nat → Int32} {a : Nat} (h : a < 2) (hp : post 0) : wpY_badChain post (d, w, c, kp) (nI a) :=
  br_f (nI_pos (by omega)) (br_t (nI_le (a := a) (b := 1) (by omega) (by decide)) hp)
theorem cb_cnt_at {c : Nat → Int32} {a m : Nat} (ha : a < 2) (hc : c a = nI m) : c (nI a).toNatClampNeg = nI m := by
  rw [nI_clamp (by omega)]; exact hc
theorem cb_xbkO {post : Int32 → Prop} {d im c : Nat → Int32} {a m : Nat} {x : Int32} (ha : a < 2) (hc : c a = nI m) (h : cb_out x m) (hp : post 0) : wpX_isBackup post (d, im, c) (nI a) x := by
  by_cases h0 : x < 0
  · exact br_t h0 hp
  · exact br_f h0 ⟨vp_in_nI ha (by decide), br_t (by rw [cb_cnt_at ha hc]; exact h.resolve_left h0) hp⟩
theorem cb_xbk {post : Int32 → Prop} {d im c : Nat → Int32} {a m k : Nat} (ha : a < 2) (hc : c a = nI m) (hm : m ≤ 6) (hk : k < m) (hp : post 1) : wpX_isBackup post (d, im, c) (nI a) (nI k) :=
  br_f (nI_pos (by omega)) ⟨vp_in_nI ha (by decide), br_f (by rw [cb_cnt_at ha hc]; exact nI_ge hk (by omega)) hp⟩
theorem cb_ybkO {post : Int32 → Prop} {d w c kp : Nat → Int32} {a m : Nat} {x : Int32} (ha : a < 2) (hc : c a = nI m) (h : cb_out x m) (hp : post 1) : wpY_none post (d, w, c, kp) (nI a) x := by
  by_cases h0 : x < 0
  · exact br_t h0 hp
  · by_cases h5 : 5 < x
    · exact br_f h0 (br_t h5 hp)
    · exact br_f h0 (br_f h5 ⟨vp_in_nI ha (by decide), br_f (by rw [cb_cnt_at ha hc]; exact Int32.not_lt.mpr (h.resolve_left h0)) hp⟩)
theorem cb_ybk {post : Int32 → Prop} {d w c kp : Nat → Int32} {a m k : Nat} (ha : a < 2) (hc : c a = nI m) (hm : m ≤ 6) (hk : k < m) (hp : post 0) : wpY_none post (d, w, c, kp) (nI a) (nI k) :=
  br_f (nI_pos (by omega)) (br_f (nI_nlt (a := 5) (b := k) (by omega) (by decide)) ⟨vp_in_nI ha (by decide), br_t (by rw [cb_cnt_at ha hc]; exact nI_lt hk (by omega)) hp⟩)
/-! the place of an image -/
theorem cb_xs (a k : Nat) : nI a * 96 + nI k * 16 = nI (96 * a + 16 * k) := by
  rw [cb_96, cb_16, pk_mul, pk_mul, nI_add]
  exact congrArg nI (by omega)
theorem cb_ys (a k : Nat) : (nI a * 6 + nI k) * 16 = nI (96 * a + 16 * k) := by
  rw [cb_6, cb_16, pk_mul, nI_add, pk_mul]
  exact congrArg nI (by omega)
theorem cb_yi (a k b : Nat) : (nI a * 6 + nI k) * 16 + nI b = nI (96 * a + 16 * k + b) := by
  rw [cb_ys, nI_add]
theorem cb_ye (a : Nat) : (nI a * 6 + 5) * 16 = nI (96 * a + 80) := by
  rw [cb_5, cb_ys]
/-! the relation: the same disk, the same counts; the images agree below each count -/
def cb_R (m : Nat → Nat) (im c kp : Nat → Int32) : Prop :=
  (∀ a, a < 2 → m a ≤ 6 ∧ c a = nI (m a)) ∧ (∀ a, a < 2 → ∀ j, j < 16 * m a → im (96 * a + j) = kp (96 * a + j))
def i_Rel (_ : Nat) (u : SX) (v : SY) : Prop :=
  ∃ (d im c w kp : Nat → Int32) (m : Nat → Nat), u = (d, im, c) ∧ v = (d, w, c, kp) ∧ cb_R m im c kp
end
section
/-! copy: the disk afterwards, i blocks written upwards; the blocks from i on written downwards -/
def cb_cp (D : Nat → Int32) (f t i : Nat) : Nat → Int32 := fun x => if t ≤ x ∧ x < t + i then D (f + (x - t)) else D x
def cb_cd (D : Nat → Int32) (f t i l : Nat) : Nat → Int32 := fun x => if t + i ≤ x ∧ x < t + l then D (f + (x - t)) else D x
def cb_wk (W D : Nat → Int32) (f i : Nat) : Nat → Int32 := fun x => if x < i then D (f + x) else W x
theorem cb_cp0 {D : Nat → Int32} {f t : Nat} : cb_cp D f t 0 = D := funext fun x => if_neg (by omega)
theorem cb_cpR {D : Nat → Int32} {f t i : Nat} (h : t ≤ f) : cb_cp D f t i (f + i) = D (f + i) := if_neg (by omega)
theorem cb_cpS {D : Nat → Int32} {f t i : Nat} {y : Int32} (hy : y = D (f + i)) : upd (cb_cp D f t i) (t + i) y = cb_cp D f t (i + 1) := by
  funext x
  show (if x = t + i then y else (if t ≤ x ∧ x < t + i then D (f + (x - t)) else D x)) = (if t ≤ x ∧ x < t + (i + 1) then D (f + (x - t)) else D x)
  by_cases e : x = t + i
  · rw [if_pos e, if_pos (by omega), hy]
    exact congrArg D (by omega)
  · rw [if_neg e]
    by_cases z : t ≤ x ∧ x < t + i
    · rw [if_pos z, if_pos (by omega)]
    · rw [if_neg z, if_neg (by omega)]
theorem cb_cdL {D : Nat → Int32} {f t l : Nat} : cb_cd D f t l l = D := funext fun x => if_neg (by omega)
theorem cb_cd0 {D : Nat → Int32} {f t l : Nat} : cb_cd D f t 0 l = cb_cp D f t l := rfl
theorem cb_cdR {D : Nat → Int32} {f t i l : Nat} (h : f ≤ t) : cb_cd D f t (i + 1) l (f + i) = D (f + i) := if_neg (by omega)
theorem cb_cdS {D : Nat → Int32} {f t i l : Nat} {y : Int32} (hi : i < l) (hy : y = D (f + i)) : upd (cb_cd D f t (i + 1) l) (t + i) y = cb_cd D f t i l := by
  funext x
  show (if x = t + i then y else (if t + (i + 1) ≤ x ∧ x < t + l then D (f + (x - t)) else D x)) = (if t + i ≤ x ∧ x < t + l then D (f + (x - t)) else D x)
  by_cases e : x = t + i
  · rw [if_pos e, if_pos (by omega), hy]
    exact congrArg D (by omega)
  · rw [if_neg e]
    by_cases z : t + (i + 1) ≤ x ∧ x < t + l
    · rw [if_pos z, if_pos (by omega)]
    · rw [if_neg z, if_neg (by omega)]
theorem cb_wk0 {W D : Nat → Int32} {f : Nat} : cb_wk W D f 0 = W := funext fun x => if_neg (by omega)
theorem cb_wkS {W D : Nat → Int32} {f i : Nat} : upd (cb_wk W D f i) i (D (f + i)) = cb_wk W D f (i + 1) := by
  funext x
  show (if x = i then D (f + i) else (if x < i then D (f + x) else W x)) = (if x < i + 1 then D (f + x) else W x)
  by_cases e : x = i
  · rw [if_pos e, if_pos (by omega), e]
  · rw [if_neg e]
    by_cases z : x < i
    · rw [if_pos z, if_pos (by omega)]
    · rw [if_neg z, if_neg (by omega)]
theorem cb_xup {post : SX → Prop} {D im c : Nat → Int32} {f t l : Nat} (hf : f + l ≤ 16) (ht : t + l ≤ 16) (h : t ≤ f) (hp : post (cb_cp D f t l, im, c)) :
    ∀ q i, i + q = l → wX_copyUpwards_3 post (nI f) (nI t) (nI l) (q + 1) (nI i) (cb_cp D f t i) im c := by
  intro q
  induction q with
  | zero =>
    intro i hi
    obtain rfl : i = l := by omega
    exact br_t (nI_le (Nat.le_refl _) (by omega)) hp
  | succ q ih =>
    intro i hi
    have n : ¬ nI l ≤ nI i := nI_ge (by omega) (by omega)
    refine br_f n ⟨?_, ?_, nm_r ?_ (nm_r (nI_1 i) (ih (i + 1) (by omega)))⟩
    · rw [nI_add]; exact vp_in_nI (by omega) (by decide)
    · rw [nI_add]; exact vp_in_nI (by omega) (by decide)
    · rw [nI_add, nI_add, nI_clamp (by omega), nI_clamp (by omega), cb_cpR h]; exact cb_cpS rfl
theorem cb_xdn {post : SX → Prop} {D im c : Nat → Int32} {f t l : Nat} (hf : f + l ≤ 16) (ht : t + l ≤ 16) (h : f ≤ t) (hp : post (cb_cp D f t l, im, c)) :
    ∀ i, i ≤ l → wX_copyDownwards_5 post (nI f) (nI t) (i + 1) (nI i + (-1)) (cb_cd D f t i l) im c := by
  intro i
  induction i with
  | zero =>
    intro _
    have n : nI 0 + (-1) < 0 := by decide +kernel
    exact br_t n hp
  | succ i ih =>
    intro hi
    rw [pk_m1]
    refine br_f (nI_pos (by omega)) ⟨?_, ?_, nm_r ?_ (nm_e (ih (by omega)))⟩
    · rw [nI_add]; exact vp_in_nI (by omega) (by decide)
    · rw [nI_add]; exact vp_in_nI (by omega) (by decide)
    · rw [nI_add, nI_add, nI_clamp (by omega), nI_clamp (by omega), cb_cdR h]; exact cb_cdS (by omega) rfl
theorem cb_xupW {post : SX → Prop} {D im c : Nat → Int32} {f t l : Nat} (hf : f + l ≤ 16) (ht : t + l ≤ 16) (h : t ≤ f) (hp : post (cb_cp D f t l, im, c)) :
    wpX_copyUpwards post (D, im, c) (nI f) (nI t) (nI l) := by
  have z := cb_xup hf ht h hp l 0 (by omega)
  rw [cb_cp0, nI_0] at z
  exact ⟨l + 1, z⟩
theorem cb_xdnW {post : SX → Prop} {D im c : Nat → Int32} {f t l : Nat} (hf : f + l ≤ 16) (ht : t + l ≤ 16) (h : f ≤ t) (hp : post (cb_cp D f t l, im, c)) :
    wpX_copyDownwards post (D, im, c) (nI f) (nI t) (nI l) := by
  have z := cb_xdn hf ht h hp l (Nat.le_refl _)
  rw [cb_cdL] at z
  have e : nI l - 1 = nI l + (-1) := Int32.sub_eq_add_neg _ _
  exact nm_r e ⟨l + 1, z⟩
theorem cb_y87 {post : Int32 → SY → Prop} {D W c kp : Nat → Int32} {f t l : Nat} (ht : t + l ≤ 16) (hW : ∀ j, j < l → W j = D (f + j)) (hp : post (nI l) (cb_cp D f t l, W, c, kp)) :
    ∀ q i, i + q = l → wY_copy_87 post (nI t) (nI l) (q + 1) (nI i) (cb_cp D f t i) W c kp := by
  intro q
  induction q with
  | zero =>
    intro i hi
    obtain rfl : i = l := by omega
    exact br_t (nI_le (Nat.le_refl _) (by omega)) hp
  | succ q ih =>
    intro i hi
    have n : ¬ nI l ≤ nI i := nI_ge (by omega) (by omega)
    refine br_f n ⟨vp_in_nI (by omega) (by decide), ?_, nm_r ?_ (nm_r (nI_1 i) (ih (i + 1) (by omega)))⟩
    · rw [nI_add]; exact vp_in_nI (by omega) (by decide)
    · rw [nI_add, nI_clamp (by omega), nI_clamp (by omega)]; exact cb_cpS (hW i (by omega))
theorem cb_y55 {post : Int32 → SY → Prop} {D W c kp : Nat → Int32} {f t l : Nat} (hf : f + l ≤ 16) (ht : t + l ≤ 16) (hp : post (nI l) (cb_cp D f t l, cb_wk W D f l, c, kp)) :
    ∀ q i, i + q = l → wY_copy_55 post (nI f) (nI t) (nI l) (q + 1) (nI i) D (cb_wk W D f i) c kp := by
  intro q
  induction q with
  | zero =>
    intro i hi
    obtain rfl : i = l := by omega
    have z := cb_y87 ht (fun j hj => if_pos hj) hp i 0 (by omega)
    rw [cb_cp0, nI_0] at z
    exact br_t (nI_le (Nat.le_refl _) (by omega)) ⟨i + 1, z⟩
  | succ q ih =>
    intro i hi
    have n : ¬ nI l ≤ nI i := nI_ge (by omega) (by omega)
    refine br_f n ⟨?_, vp_in_nI (by omega) (by decide), nm_r ?_ (nm_r (nI_1 i) (ih (i + 1) (by omega)))⟩
    · rw [nI_add]; exact vp_in_nI (by omega) (by decide)
    · rw [nI_add, nI_clamp (by omega), nI_clamp (by omega)]; exact cb_wkS
theorem cb_c1 {f l : Nat} (hf : f < 16) (hl : l < 2 ^ 31) : (16 - nI f) < nI l ↔ 16 - f < l := by
  rw [cb_16, pk_sub (by omega), nI_ltI (by omega) hl]
theorem cb_c2 {t l : Nat} (ht : t < 16) (hl : l < 2 ^ 31) : nI l ≤ (16 - nI t) ↔ l ≤ 16 - t := by
  rw [cb_16, pk_sub (by omega), nI_leI hl (by omega)]
theorem cb_copy9 (x1 x2 : Int32) {l : Nat} (hl : l < 2 ^ 31) (d im c w kp : Nat → Int32) :
    ∃ (r : Int32) (D' W' : Nat → Int32), (∀ post : Int32 → SX → Prop, post r (D', im, c) → wX_copy_9 post x1 x2 (nI l) d im c) ∧
      (∀ post : Int32 → SY → Prop, post r (D', W', c, kp) → wY_copy_9 post x1 x2 (nI l) d w c kp) := by
  rcases cb_split x1 (n := 16) (by decide) with h1 | ⟨f, hf, rfl⟩
  · refine ⟨-2, d, w, fun post hp => ?_, fun post hp => ?_⟩
    · unfold wX_copy_9; exact cb_xblkO h1 (br_t rfl hp)
    · unfold wY_copy_9; exact cb_ygO h1 hp
  rcases cb_split x2 (n := 16) (by decide) with h2 | ⟨t, ht, rfl⟩
  · refine ⟨-2, d, w, fun post hp => ?_, fun post hp => ?_⟩
    · unfold wX_copy_9; exact cb_xblk hf (br_f (by decide) (cb_xblkO h2 (br_t rfl hp)))
    · unfold wY_copy_9; exact cb_yg hf (cb_ygO h2 hp)
  by_cases k1 : 16 - f < l
  · have n1 := (cb_c1 hf hl).mpr k1
    refine ⟨-2, d, w, fun post hp => ?_, fun post hp => ?_⟩
    · unfold wX_copy_9; exact cb_xblk hf (br_f (by decide) (cb_xblk ht (br_f (by decide) (br_t n1 hp))))
    · unfold wY_copy_9; exact cb_yg hf (cb_yg ht (br_t n1 hp))
  have n1 := fun z => k1 ((cb_c1 hf hl).mp z)
  by_cases k2 : l ≤ 16 - t
  · have n2 := (cb_c2 ht hl).mpr k2
    refine ⟨nI l, cb_cp d f t l, cb_wk w d f l, fun post hp => ?_, fun post hp => ?_⟩
    · unfold wX_copy_9
      refine cb_xblk hf (br_f (by decide) (cb_xblk ht (br_f (by decide) (br_f n1 (br_t n2 ?_)))))
      by_cases o : f ≤ t
      · exact br_t (nI_le o (by omega)) (cb_xdnW (by omega) (by omega) o hp)
      · exact br_f (nI_ge (by omega) (by omega)) (cb_xupW (by omega) (by omega) (by omega) hp)
    · unfold wY_copy_9
      have z := cb_y55 (W := w) (by omega) (by omega) hp l 0 (by omega)
      rw [cb_wk0, nI_0] at z
      exact cb_yg hf (cb_yg ht (br_f n1 (br_t n2 ⟨l + 1, z⟩)))
  · have n2 := fun z => k2 ((cb_c2 ht hl).mp z)
    refine ⟨-2, d, w, fun post hp => ?_, fun post hp => ?_⟩
    · unfold wX_copy_9; exact cb_xblk hf (br_f (by decide) (cb_xblk ht (br_f (by decide) (br_f n1 (br_f n2 hp)))))
    · unfold wY_copy_9; exact cb_yg hf (cb_yg ht (br_f n1 (br_f n2 hp)))
theorem i_vc_copy {k : Nat} {u : SX} {v : SY} (I : i_Rel k u v) (hk : k + 4 ≤ 2048) (v1 : Int32) (v2 : Int32) (v3 : Int32) : wpX_copy (fun r u' => wpY_copy (fun r' v' => r' = r ∧ i_Rel (k + 4) u' v') v v1 v2 v3) u v1 v2 v3 := by
  obtain ⟨d, im, c, w, kp, m, rfl, rfl, h⟩ := I
  by_cases h0 : 0 ≤ v3
  · obtain ⟨l, hl, rfl⟩ := nI_of (x := v3) (Int32.not_lt.mpr h0)
    obtain ⟨r, D', W', hX, hY⟩ := cb_copy9 v1 v2 hl d im c w kp
    exact br_t h0 (hX _ (br_t h0 (hY _ ⟨rfl, D', im, c, W', kp, m, rfl, rfl, h⟩)))
  · obtain ⟨r, D', W', hX, hY⟩ := cb_copy9 v1 v2 (l := 0) (by decide) d im c w kp
    rw [nI_0] at hX hY
    exact br_f h0 (hX _ (br_f h0 (hY _ ⟨rfl, D', im, c, W', kp, m, rfl, rfl, h⟩)))
end
section
/-! counting against an image, in lockstep -/
theorem cb_cnt {d im c w kp : Nat → Int32} {a k : Nat} (ha : a < 2) (hk : k < 6) (hg : ∀ b, b < 16 → im (96 * a + 16 * k + b) = kp (96 * a + 16 * k + b)) :
    ∀ t b, b + t = 16 → ∀ r0 : Int32, ∃ r : Int32, (∀ post : Int32 → Prop, post r → wX_countChanges_12 post (nI (96 * a + 16 * k)) d im c (t + 1) r0 (nI b)) ∧
      (∀ post : Int32 → Prop, post r → wY_against_5 post (nI a) (nI k) d w c kp (t + 1) r0 (nI b)) := by
  intro t
  induction t with
  | zero =>
    intro b hb r0
    have n : (16 : Int32) ≤ nI b := nI_le (a := 16) (by omega) (by omega)
    exact ⟨r0, fun _ hp => br_t n hp, fun _ hp => br_t n hp⟩
  | succ t ih =>
    intro b hb r0
    have n : ¬ (16 : Int32) ≤ nI b := nI_ge (b := 16) (by omega) (by decide)
    have hi : vp_in (nI b) 16 := vp_in_nI (by omega) (by decide)
    have eb : (nI b).toNatClampNeg = b := nI_clamp (by omega)
    have eX : (nI (96 * a + 16 * k) + nI b).toNatClampNeg = 96 * a + 16 * k + b := by rw [nI_add, nI_clamp (by omega)]
    have iX : vp_in (nI (96 * a + 16 * k) + nI b) 192 := by rw [nI_add]; exact vp_in_nI (by omega) (by decide)
    have eY : ((nI a * 6 + nI k) * 16 + nI b).toNatClampNeg = 96 * a + 16 * k + b := by rw [cb_yi, nI_clamp (by omega)]
    have iY : vp_in ((nI a * 6 + nI k) * 16 + nI b) 192 := by rw [cb_yi]; exact vp_in_nI (by omega) (by decide)
    by_cases z : d b = im (96 * a + 16 * k + b)
    · have z' : d b = kp (96 * a + 16 * k + b) := z.trans (hg b (by omega))
      obtain ⟨r, hX, hY⟩ := ih (b + 1) (by omega) r0
      exact ⟨r, fun post hp => br_f n ⟨hi, iX, br_t (by rw [eb, eX]; exact z) (nm_r (nI_1 b) (hX post hp))⟩,
        fun post hp => br_f n ⟨hi, iY, br_t (by rw [eb, eY]; exact z') (nm_r (nI_1 b) (hY post hp))⟩⟩
    · have z' : ¬ d b = kp (96 * a + 16 * k + b) := fun q => z (q.trans (hg b (by omega)).symm)
      obtain ⟨r, hX, hY⟩ := ih (b + 1) (by omega) (r0 + 1)
      exact ⟨r, fun post hp => br_f n ⟨hi, iX, br_f (by rw [eb, eX]; exact z) (nm_e (nm_r (nI_1 b) (hX post hp)))⟩,
        fun post hp => br_f n ⟨hi, iY, br_f (by rw [eb, eY]; exact z') (nm_e (nm_r (nI_1 b) (hY post hp)))⟩⟩
theorem cb_cntW {d im c w kp : Nat → Int32} {a k : Nat} (ha : a < 2) (hk : k < 6) (hg : ∀ b, b < 16 → im (96 * a + 16 * k + b) = kp (96 * a + 16 * k + b)) :
    ∃ r : Int32, (∀ post : Int32 → Prop, post r → wpX_countChanges post (d, im, c) (nI a) (nI k)) ∧
      (∀ post : Int32 → Prop, post r → wpY_against post (d, w, c, kp) (nI a) (nI k)) := by
  obtain ⟨r, hX, hY⟩ := cb_cnt (d := d) (c := c) (w := w) ha hk hg 16 0 rfl 0
  rw [nI_0] at hX hY
  refine ⟨r, fun post hp => ?_, fun post hp => ⟨17, hY post hp⟩⟩
  unfold wpX_countChanges wpX_imageStart
  dsimp only
  rw [cb_xs]
  exact ⟨17, hX post hp⟩
/-! two images of one chain, in lockstep -/
theorem cb_dif {d im c w kp : Nat → Int32} {a j k : Nat} (ha : a < 2) (hj : j < 6) (hk : k < 6) (hf : ∀ b, b < 16 → im (96 * a + 16 * j + b) = kp (96 * a + 16 * j + b)) (hg : ∀ b, b < 16 → im (96 * a + 16 * k + b) = kp (96 * a + 16 * k + b)) :
    ∀ t b, b + t = 16 → ∀ r0 : Int32, ∃ r : Int32, (∀ post : Int32 → Prop, post r → wX_differ_50 post (nI (96 * a + 16 * j)) (nI (96 * a + 16 * k)) d im c (t + 1) r0 (nI b)) ∧
      (∀ post : Int32 → Prop, post r → wY_differ_37 post (nI a) (nI j) (nI k) d w c kp (t + 1) r0 (nI b)) := by
  intro t
  induction t with
  | zero =>
    intro b hb r0
    have n : (16 : Int32) ≤ nI b := nI_le (a := 16) (by omega) (by omega)
    exact ⟨r0, fun _ hp => br_t n hp, fun _ hp => br_t n hp⟩
  | succ t ih =>
    intro b hb r0
    have n : ¬ (16 : Int32) ≤ nI b := nI_ge (b := 16) (by omega) (by decide)
    have eX : ∀ q, q < 6 → (nI (96 * a + 16 * q) + nI b).toNatClampNeg = 96 * a + 16 * q + b := fun q hq => by rw [nI_add, nI_clamp (by omega)]
    have iX : ∀ q, q < 6 → vp_in (nI (96 * a + 16 * q) + nI b) 192 := fun q hq => by rw [nI_add]; exact vp_in_nI (by omega) (by decide)
    have eY : ∀ q, q < 6 → ((nI a * 6 + nI q) * 16 + nI b).toNatClampNeg = 96 * a + 16 * q + b := fun q hq => by rw [cb_yi, nI_clamp (by omega)]
    have iY : ∀ q, q < 6 → vp_in ((nI a * 6 + nI q) * 16 + nI b) 192 := fun q hq => by rw [cb_yi]; exact vp_in_nI (by omega) (by decide)
    have gf := hf b (by omega)
    have gg := hg b (by omega)
    by_cases z : im (96 * a + 16 * j + b) = im (96 * a + 16 * k + b)
    · have z' : kp (96 * a + 16 * j + b) = kp (96 * a + 16 * k + b) := gf.symm.trans (z.trans gg)
      obtain ⟨r, hX, hY⟩ := ih (b + 1) (by omega) r0
      exact ⟨r, fun post hp => br_f n ⟨iX j hj, iX k hk, br_t (by rw [eX j hj, eX k hk]; exact z) (nm_r (nI_1 b) (hX post hp))⟩,
        fun post hp => br_f n ⟨iY j hj, iY k hk, br_t (by rw [eY j hj, eY k hk]; exact z') (nm_r (nI_1 b) (hY post hp))⟩⟩
    · have z' : ¬ kp (96 * a + 16 * j + b) = kp (96 * a + 16 * k + b) := fun q => z (gf.trans (q.trans gg.symm))
      obtain ⟨r, hX, hY⟩ := ih (b + 1) (by omega) (r0 + 1)
      exact ⟨r, fun post hp => br_f n ⟨iX j hj, iX k hk, br_f (by rw [eX j hj, eX k hk]; exact z) (nm_e (nm_r (nI_1 b) (hX post hp)))⟩,
        fun post hp => br_f n ⟨iY j hj, iY k hk, br_f (by rw [eY j hj, eY k hk]; exact z') (nm_e (nm_r (nI_1 b) (hY post hp)))⟩⟩
/-! an image onto the disk, in lockstep -/
theorem cb_res {im c w kp : Nat → Int32} {a k : Nat} {r : Int32} (ha : a < 2) (hk : k < 6) (hg : ∀ b, b < 16 → im (96 * a + 16 * k + b) = kp (96 * a + 16 * k + b)) :
    ∀ t b, b + t = 16 → ∀ D : Nat → Int32, ∃ D' : Nat → Int32, (∀ post : Int32 → SX → Prop, post r (D', im, c) → wX_restore_38 post r (nI (96 * a + 16 * k)) (t + 1) (nI b) D im c) ∧
      (∀ post : Int32 → SY → Prop, post r (D', w, c, kp) → wY_restore_32 post (nI a) (nI k) r (t + 1) (nI b) D w c kp) := by
  intro t
  induction t with
  | zero =>
    intro b hb D
    have n : (16 : Int32) ≤ nI b := nI_le (a := 16) (by omega) (by omega)
    exact ⟨D, fun _ hp => br_t n hp, fun _ hp => br_t n hp⟩
  | succ t ih =>
    intro b hb D
    have n : ¬ (16 : Int32) ≤ nI b := nI_ge (b := 16) (by omega) (by decide)
    have hi : vp_in (nI b) 16 := vp_in_nI (by omega) (by decide)
    have eb : (nI b).toNatClampNeg = b := nI_clamp (by omega)
    have eX : (nI (96 * a + 16 * k) + nI b).toNatClampNeg = 96 * a + 16 * k + b := by rw [nI_add, nI_clamp (by omega)]
    have iX : vp_in (nI (96 * a + 16 * k) + nI b) 192 := by rw [nI_add]; exact vp_in_nI (by omega) (by decide)
    have eY : ((nI a * 6 + nI k) * 16 + nI b).toNatClampNeg = 96 * a + 16 * k + b := by rw [cb_yi, nI_clamp (by omega)]
    have iY : vp_in ((nI a * 6 + nI k) * 16 + nI b) 192 := by rw [cb_yi]; exact vp_in_nI (by omega) (by decide)
    obtain ⟨D', hX, hY⟩ := ih (b + 1) (by omega) (upd D b (im (96 * a + 16 * k + b)))
    exact ⟨D', fun post hp => br_f n ⟨iX, hi, nm_r (by rw [eb, eX]) (nm_r (nI_1 b) (hX post hp))⟩,
      fun post hp => br_f n ⟨iY, hi, nm_r (by rw [eb, eY, ← hg b (by omega)]) (nm_r (nI_1 b) (hY post hp))⟩⟩
/-! the disk into an image: a write of one value at one place on both sides keeps all agreement and adds that place -/
theorem cb_bak {d c w : Nat → Int32} {a k : Nat} {r : Int32} {c' : Nat → Int32} (ha : a < 2) (hk : k < 6) (hc : upd c a (nI k + 1) = c') (hr : nI k = r) :
    ∀ t b, b + t = 16 → ∀ (im kp : Nat → Int32) (G : Nat → Prop), (∀ x, G x → im x = kp x) → ∃ im' kp' : Nat → Int32, (∀ x, (G x ∨ (96 * a + 16 * k + b ≤ x ∧ x < 96 * a + 16 * k + 16)) → im' x = kp' x) ∧
      (∀ post : Int32 → SX → Prop, post r (d, im', c') → wX_backup_34 post (nI a) (nI k) (nI (96 * a + 16 * k)) (t + 1) (nI b) d im c) ∧
      (∀ post : Int32 → SY → Prop, post r (d, w, c', kp') → wY_backup_28 post (nI a) (nI k) (t + 1) (nI b) d w c kp) := by
  subst hr hc
  have ia : vp_in (nI a) 2 := vp_in_nI ha (by decide)
  have ea : (nI a).toNatClampNeg = a := nI_clamp (by omega)
  intro t
  induction t with
  | zero =>
    intro b hb im kp G hG
    have n : (16 : Int32) ≤ nI b := nI_le (a := 16) (by omega) (by omega)
    refine ⟨im, kp, fun x hx => ?_, fun post hp => br_t n ⟨ia, nm_r (by rw [ea]) hp⟩, fun post hp => br_t n ⟨ia, nm_r (by rw [ea]) hp⟩⟩
    rcases hx with hx | hx
    · exact hG x hx
    · omega
  | succ t ih =>
    intro b hb im kp G hG
    have n : ¬ (16 : Int32) ≤ nI b := nI_ge (b := 16) (by omega) (by decide)
    have hi : vp_in (nI b) 16 := vp_in_nI (by omega) (by decide)
    have eb : (nI b).toNatClampNeg = b := nI_clamp (by omega)
    have eX : (nI (96 * a + 16 * k) + nI b).toNatClampNeg = 96 * a + 16 * k + b := by rw [nI_add, nI_clamp (by omega)]
    have iX : vp_in (nI (96 * a + 16 * k) + nI b) 192 := by rw [nI_add]; exact vp_in_nI (by omega) (by decide)
    have eY : ((nI a * 6 + nI k) * 16 + nI b).toNatClampNeg = 96 * a + 16 * k + b := by rw [cb_yi, nI_clamp (by omega)]
    have iY : vp_in ((nI a * 6 + nI k) * 16 + nI b) 192 := by rw [cb_yi]; exact vp_in_nI (by omega) (by decide)
    obtain ⟨im', kp', hA, hX, hY⟩ := ih (b + 1) (by omega) (upd im (96 * a + 16 * k + b) (d b)) (upd kp (96 * a + 16 * k + b) (d b)) (fun x => G x ∨ x = 96 * a + 16 * k + b) (by
      intro x hx
      by_cases e : x = 96 * a + 16 * k + b
      · rw [e, pk_us, pk_us]
      · rw [pk_un e, pk_un e]
        exact hG x (hx.resolve_right e))
    refine ⟨im', kp', fun x hx => hA x ?_, fun post hp => br_f n ⟨hi, iX, nm_r (by rw [eb, eX]) (nm_r (nI_1 b) (hX post hp))⟩,
      fun post hp => br_f n ⟨hi, iY, nm_r (by rw [eb, eY]) (nm_r (nI_1 b) (hY post hp))⟩⟩
    rcases hx with hx | hx
    · exact Or.inl (Or.inl hx)
    · by_cases e : x = 96 * a + 16 * k + b
      · exact Or.inl (Or.inr e)
      · exact Or.inr (by omega)
/-! the shift by one image: each side against its own picture -/
def cb_sh (F : Nat → Int32) (p e : Nat) : Nat → Int32 := fun x => if p ≤ x ∧ x < e then F (x + 16) else F x
theorem cb_shE {F : Nat → Int32} {p : Nat} : cb_sh F p p = F := funext fun x => if_neg (by omega)
theorem cb_shS {F : Nat → Int32} {p e : Nat} (h : p < e) : cb_sh (upd F p (F (p + 16))) (p + 1) e = cb_sh F p e := by
  funext x
  show (if p + 1 ≤ x ∧ x < e then upd F p (F (p + 16)) (x + 16) else upd F p (F (p + 16)) x) = (if p ≤ x ∧ x < e then F (x + 16) else F x)
  by_cases q : x = p
  · subst q
    rw [if_neg (by omega), if_pos (by omega), pk_us]
  · by_cases z : p + 1 ≤ x ∧ x < e
    · rw [if_pos z, if_pos (by omega), pk_un (by omega)]
    · rw [if_neg z, if_neg (by omega), pk_un q]
theorem cb_xsh {post : Int32 → SX → Prop} {d c : Nat → Int32} {a e : Nat} {r : Int32} (ha : a < 2) (he : e ≤ 176) :
    ∀ t p, p + t = e → ∀ im : Nat → Int32, post r (d, cb_sh im p e, upd c a r) → wX_remove_44 post (nI a) r (nI e) (t + 1) (nI p) d im c := by
  have ia : vp_in (nI a) 2 := vp_in_nI ha (by decide)
  have ea : (nI a).toNatClampNeg = a := nI_clamp (by omega)
  intro t
  induction t with
  | zero =>
    intro p hp im h
    obtain rfl : p = e := by omega
    rw [cb_shE] at h
    exact br_t (nI_le (Nat.le_refl _) (by omega)) ⟨ia, nm_r (by rw [ea]) h⟩
  | succ t ih =>
    intro p hp im h
    rw [← cb_shS (by omega)] at h
    have n : ¬ nI e ≤ nI p := nI_ge (by omega) (by omega)
    have e16 : nI p + 16 = nI (p + 16) := by rw [cb_16, nI_add]
    refine br_f n ⟨?_, vp_in_nI (by omega) (by decide), nm_r ?_ (nm_r (nI_1 p) (ih (p + 1) (by omega) _ h))⟩
    · rw [e16]; exact vp_in_nI (by omega) (by decide)
    · rw [e16, nI_clamp (by omega), nI_clamp (by omega)]
theorem cb_ysh {post : Int32 → SY → Prop} {d w c : Nat → Int32} {a q : Nat} (ha : a < 2) (hc : c a = nI (q + 1)) :
    ∀ t p, p + t = 96 * a + 80 → ∀ kp : Nat → Int32, post (nI q) (d, w, upd c a (nI q), cb_sh kp p (96 * a + 80)) → wY_drop_32 post (nI a) (t + 1) (nI p) d w c kp := by
  have ia : vp_in (nI a) 2 := vp_in_nI ha (by decide)
  have ea : (nI a).toNatClampNeg = a := nI_clamp (by omega)
  intro t
  induction t with
  | zero =>
    intro p hp kp h
    obtain rfl : p = 96 * a + 80 := by omega
    rw [cb_shE] at h
    have n : (nI a * 6 + 5) * 16 ≤ nI (96 * a + 80) := by rw [cb_ye]; exact nI_le (Nat.le_refl _) (by omega)
    refine br_t n ⟨ia, ia, nm_r (e' := upd c a (nI q)) (by rw [ea, hc, nI_pred]) ⟨ia, ?_⟩⟩
    rw [ea, pk_us]
    exact h
  | succ t ih =>
    intro p hp kp h
    rw [← cb_shS (by omega)] at h
    have n : ¬ (nI a * 6 + 5) * 16 ≤ nI p := by rw [cb_ye]; exact nI_ge (by omega) (by omega)
    have e16 : nI p + 16 = nI (p + 16) := by rw [cb_16, nI_add]
    refine br_f n ⟨?_, vp_in_nI (by omega) (by decide), nm_r ?_ (nm_r (nI_1 p) (ih (p + 1) (by omega) _ h))⟩
    · rw [e16]; exact vp_in_nI (by omega) (by decide)
    · rw [e16, nI_clamp (by omega), nI_clamp (by omega)]
end
section
theorem cb_img {m : Nat → Nat} {im c kp : Nat → Int32} (h : cb_R m im c kp) {a k : Nat} (ha : a < 2) (hk : k < m a) : ∀ b, b < 16 → im (96 * a + 16 * k + b) = kp (96 * a + 16 * k + b) := by
  intro b hb
  rw [Nat.add_assoc]
  exact h.2 a ha (16 * k + b) (by omega)
/-- the counts and images after a chain's count has become n -/
theorem cb_Rset {m : Nat → Nat} {im c kp im' kp' : Nat → Int32} (h : cb_R m im c kp) {a n : Nat} (hn : n ≤ 6)
    (h1 : ∀ j, j < 16 * n → im' (96 * a + j) = kp' (96 * a + j))
    (h2 : ∀ q, q < 2 → q ≠ a → ∀ j, j < 16 * m q → im' (96 * q + j) = kp' (96 * q + j)) :
    cb_R (fun q => if q = a then n else m q) im' (upd c a (nI n)) kp' := by
  refine ⟨fun q hq => ?_, fun q hq j hj => ?_⟩
  · by_cases e : q = a
    · subst e
      dsimp only
      rw [if_pos rfl, pk_us]
      exact ⟨hn, rfl⟩
    · dsimp only
      rw [if_neg e, pk_un e]
      exact h.1 q hq
  · dsimp only at hj
    by_cases e : q = a
    · subst e
      rw [if_pos rfl] at hj
      exact h1 j hj
    · rw [if_neg e] at hj
      exact h2 q hq e j hj
theorem cb_rem {m : Nat → Nat} {im c kp : Nat → Int32} (h : cb_R m im c kp) (d w : Nat → Int32) (x1 x2 : Int32) :
    ∃ (r : Int32) (im' c' kp' : Nat → Int32) (m' : Nat → Nat), cb_R m' im' c' kp' ∧
      (∀ post : Int32 → SX → Prop, post r (d, im', c') → wpX_remove post (d, im, c) x1 x2) ∧
      (∀ post : Int32 → SY → Prop, post r (d, w, c', kp') → wpY_drop post (d, w, c, kp) x1 x2) := by
  rcases cb_split x1 (n := 2) (by decide) with o | ⟨a, ha, rfl⟩
  · refine ⟨-1, im, c, kp, m, h, fun post hp => ?_, fun post hp => ?_⟩
    · unfold wpX_remove; exact cb_xchO o (br_t rfl hp)
    · unfold wpY_drop; exact cb_ychO o (br_f (by decide) hp)
  obtain ⟨hm, hc⟩ := h.1 a ha
  rcases cb_split x2 (n := m a) (by omega) with o | ⟨k, hk, rfl⟩
  · refine ⟨-4, im, c, kp, m, h, fun post hp => ?_, fun post hp => ?_⟩
    · unfold wpX_remove; exact cb_xch ha (br_f (by decide) (cb_xbkO ha hc o (br_t rfl hp)))
    · unfold wpY_drop; exact cb_ych ha (br_t rfl (cb_ybkO ha hc o (br_f (by decide) hp)))
  obtain ⟨n, en⟩ : ∃ n, m a = n + 1 := ⟨m a - 1, by omega⟩
  have hc' : c a = nI (n + 1) := by rw [hc, en]
  refine ⟨nI n, cb_sh im (96 * a + 16 * k) (96 * a + 16 * n), upd c a (nI n), cb_sh kp (96 * a + 16 * k) (96 * a + 80), _, cb_Rset h (n := n) (by omega) ?_ ?_, fun post hp => ?_, fun post hp => ?_⟩
  · intro j hj
    show (if 96 * a + 16 * k ≤ 96 * a + j ∧ 96 * a + j < 96 * a + 16 * n then im (96 * a + j + 16) else im (96 * a + j)) = (if 96 * a + 16 * k ≤ 96 * a + j ∧ 96 * a + j < 96 * a + 80 then kp (96 * a + j + 16) else kp (96 * a + j))
    by_cases z : 16 * k ≤ j
    · rw [if_pos (by omega), if_pos (by omega), Nat.add_assoc]
      exact h.2 a ha (j + 16) (by omega)
    · rw [if_neg (by omega), if_neg (by omega)]
      exact h.2 a ha j (by omega)
  · intro q hq e j hj
    have hmq := (h.1 q hq).1
    show (if 96 * a + 16 * k ≤ 96 * q + j ∧ 96 * q + j < 96 * a + 16 * n then im (96 * q + j + 16) else im (96 * q + j)) = (if 96 * a + 16 * k ≤ 96 * q + j ∧ 96 * q + j < 96 * a + 80 then kp (96 * q + j + 16) else kp (96 * q + j))
    rw [if_neg (by omega), if_neg (by omega)]
    exact h.2 q hq j hj
  · unfold wpX_remove
    refine cb_xch ha (br_f (by decide) (cb_xbk ha hc hm hk (br_f (by decide) ⟨vp_in_nI ha (by decide), nm_r (e' := nI n) (by rw [cb_cnt_at ha hc', nI_pred]) ?_⟩)))
    unfold wpX_imageStart
    dsimp only
    rw [cb_xs, cb_xs]
    exact ⟨_, cb_xsh ha (by omega) (16 * n - 16 * k) (96 * a + 16 * k) (by omega) im hp⟩
  · unfold wpY_drop
    exact cb_ych ha (br_t rfl (cb_ybk ha hc hm hk (br_t rfl (nm_r (cb_ys a k) ⟨_, cb_ysh ha hc' (80 - 16 * k) (96 * a + 16 * k) (by omega) kp hp⟩))))
theorem i_up {k : Nat} {u : SX} {v : SY} (h : i_Rel k u v) : i_Rel (k + 4) u v := h
theorem i_vc0 : wpX_init (fun u => wpY_init (fun v => i_Rel 0 u v)) := by
  unfold wpX_init wpY_init
  exact ⟨_, _, _, _, _, fun _ => 0, rfl, rfl, ⟨fun a ha => ⟨Nat.zero_le 6, nI_0.symm⟩, fun a ha j hj => rfl⟩⟩
theorem i_vc_write {k : Nat} {u : SX} {v : SY} (I : i_Rel k u v) (hk : k + 4 ≤ 2048) (v1 : Int32) (v2 : Int32) : wpX_write (fun r u' => wpY_write (fun r' v' => r' = r ∧ i_Rel (k + 4) u' v') v v1 v2) u v1 v2 := by
  obtain ⟨d, im, c, w, kp, m, rfl, rfl, h⟩ := I
  unfold wpX_write wpY_write
  rcases cb_split v1 (n := 16) (by decide) with o | ⟨b, hb, rfl⟩
  · exact cb_xblkO o (br_t rfl (cb_ylO o ⟨rfl, d, im, c, w, kp, m, rfl, rfl, h⟩))
  · have hi : vp_in (nI b) 16 := vp_in_nI hb (by decide)
    exact cb_xblk hb (br_f (by decide) ⟨hi, nm_e (cb_yl hb ⟨hi, nm_e ⟨rfl, _, im, c, w, kp, m, rfl, rfl, h⟩⟩)⟩)
theorem i_vc_backup {k : Nat} {u : SX} {v : SY} (I : i_Rel k u v) (hk : k + 4 ≤ 2048) (v1 : Int32) : wpX_backup (fun r u' => wpY_backup (fun r' v' => r' = r ∧ i_Rel (k + 4) u' v') v v1) u v1 := by
  obtain ⟨d, im, c, w, kp, m, rfl, rfl, h⟩ := I
  unfold wpX_backup wpY_backup
  rcases cb_split v1 (n := 2) (by decide) with o | ⟨a, ha, rfl⟩
  · exact cb_xchO o (br_t rfl (cb_ychO o (br_f (by decide) ⟨rfl, d, im, c, w, kp, m, rfl, rfl, h⟩)))
  · obtain ⟨hm, hc⟩ := h.1 a ha
    have ia : vp_in (nI a) 2 := vp_in_nI ha (by decide)
    refine cb_xch ha (br_f (by decide) ⟨ia, nm_r (cb_cnt_at ha hc) ?_⟩)
    by_cases f : m a = 6
    · have n1 : ¬ nI (m a) < 6 := nI_nlt (b := 6) (by omega) (by omega)
      have n2 : nI (m a) = 6 := by rw [f, cb_6]
      exact br_f n1 (cb_ych ha (br_t rfl ⟨ia, nm_r (cb_cnt_at ha hc) (br_t n2 ⟨rfl, d, im, c, w, kp, m, rfl, rfl, h⟩)⟩))
    · have n1 : nI (m a) < 6 := nI_lt (b := 6) (by omega) (by decide)
      have n2 : ¬ nI (m a) = 6 := by rw [cb_6, nI_eq (by omega) (by decide)]; exact f
      obtain ⟨im', kp', hA, hX, hY⟩ := cb_bak (d := d) (w := w) (c := c) (k := m a) ha (by omega) (by rw [nI_1]) rfl 16 0 rfl im kp (fun x => im x = kp x) (fun x hx => hx)
      rw [nI_0] at hX hY
      refine br_t n1 ?_
      unfold wpX_imageStart
      dsimp only
      rw [cb_xs]
      refine ⟨17, hX _ (cb_ych ha (br_t rfl ⟨ia, nm_r (cb_cnt_at ha hc) (br_f n2 ⟨17, hY _ ⟨rfl, d, im', _, w, kp', _, rfl, rfl, cb_Rset h (n := m a + 1) (by omega) ?_ ?_⟩⟩)⟩))⟩
      · intro j hj
        by_cases z : j < 16 * m a
        · exact hA _ (Or.inl (h.2 a ha j z))
        · exact hA _ (Or.inr (by omega))
      · intro q hq e j hj
        exact hA _ (Or.inl (h.2 q hq j hj))
theorem i_vc_restore {k : Nat} {u : SX} {v : SY} (I : i_Rel k u v) (hk : k + 4 ≤ 2048) (v1 : Int32) (v2 : Int32) : wpX_restore (fun r u' => wpY_restore (fun r' v' => r' = r ∧ i_Rel (k + 4) u' v') v v1 v2) u v1 v2 := by
  obtain ⟨d, im, c, w, kp, m, rfl, rfl, h⟩ := I
  unfold wpX_restore wpY_restore
  rcases cb_split v1 (n := 2) (by decide) with o | ⟨a, ha, rfl⟩
  · exact cb_xchO o (br_t rfl (cb_ychO o (br_f (by decide) ⟨rfl, d, im, c, w, kp, m, rfl, rfl, h⟩)))
  obtain ⟨hm, hc⟩ := h.1 a ha
  rcases cb_split v2 (n := m a) (by omega) with o | ⟨b, hb, rfl⟩
  · exact cb_xch ha (br_f (by decide) (cb_xbkO ha hc o (br_t rfl (cb_ych ha (br_t rfl (cb_ybkO ha hc o (br_f (by decide) ⟨rfl, d, im, c, w, kp, m, rfl, rfl, h⟩)))))))
  obtain ⟨r, hX, hY⟩ := cb_cntW (d := d) (c := c) (w := w) ha (by omega) (cb_img h ha hb)
  obtain ⟨D', gX, gY⟩ := cb_res (c := c) (w := w) (r := r) ha (by omega) (cb_img h ha hb) 16 0 rfl d
  rw [nI_0] at gX gY
  refine cb_xch ha (br_f (by decide) (cb_xbk ha hc hm hb (br_f (by decide) (hX _ ?_))))
  unfold wpX_imageStart
  dsimp only
  rw [cb_xs]
  exact ⟨17, gX _ (cb_ych ha (br_t rfl (cb_ybk ha hc hm hb (br_t rfl (hY _ ⟨17, gY _ ⟨rfl, D', im, c, w, kp, m, rfl, rfl, h⟩⟩)))))⟩
theorem i_vc_dropOldest {k : Nat} {u : SX} {v : SY} (I : i_Rel k u v) (hk : k + 4 ≤ 2048) (v1 : Int32) : wpX_dropOldest (fun r u' => wpY_dropOldest (fun r' v' => r' = r ∧ i_Rel (k + 4) u' v') v v1) u v1 := by
  obtain ⟨d, im, c, w, kp, m, rfl, rfl, h⟩ := I
  obtain ⟨r, im', c', kp', m', h', hX, hY⟩ := cb_rem h d w v1 0
  unfold wpX_dropOldest wpY_dropOldest
  exact hX _ (hY _ ⟨rfl, d, im', c', w, kp', m', rfl, rfl, h'⟩)
theorem i_vc_drop {k : Nat} {u : SX} {v : SY} (I : i_Rel k u v) (hk : k + 4 ≤ 2048) (v1 : Int32) (v2 : Int32) : wpX_drop (fun r u' => wpY_drop (fun r' v' => r' = r ∧ i_Rel (k + 4) u' v') v v1 v2) u v1 v2 := by
  obtain ⟨d, im, c, w, kp, m, rfl, rfl, h⟩ := I
  obtain ⟨r, im', c', kp', m', h', hX, hY⟩ := cb_rem h d w v1 v2
  unfold wpX_drop
  exact hX _ (hY _ ⟨rfl, d, im', c', w, kp', m', rfl, rfl, h'⟩)
theorem i_vc_restart {k : Nat} {u : SX} {v : SY} (I : i_Rel k u v) (hk : k + 4 ≤ 2048) : wpX_restart (fun u' => wpY_restart (fun v' => i_Rel (k + 4) u' v') v) u := by
  obtain ⟨d, im, c, w, kp, m, rfl, rfl, h⟩ := I
  unfold wpX_restart wpY_restart
  exact ⟨d, im, c, w, kp, m, rfl, rfl, h⟩
theorem i_vc_crash {k : Nat} {u : SX} {v : SY} (I : i_Rel k u v) (hk : k + 4 ≤ 2048) : wpX_crash (fun u' => wpY_crash (fun v' => i_Rel (k + 4) u' v') v) u := by
  obtain ⟨d, im, c, w, kp, m, rfl, rfl, h⟩ := I
  unfold wpX_crash wpY_crash
  exact ⟨d, im, c, w, kp, m, rfl, rfl, h⟩
theorem i_vc_read {k : Nat} {u : SX} {v : SY} (I : i_Rel k u v) (hk : k + 4 ≤ 2048) (v1 : Int32) : wpX_read (fun r => wpY_read (fun r' => r' = r ∧ i_Rel (k + 4) u v) v v1) u v1 := by
  obtain ⟨d, im, c, w, kp, m, rfl, rfl, h⟩ := I
  unfold wpX_read wpY_read
  rcases cb_split v1 (n := 16) (by decide) with o | ⟨b, hb, rfl⟩
  · exact cb_xblkO o (br_t rfl (cb_ylO o ⟨rfl, d, im, c, w, kp, m, rfl, rfl, h⟩))
  · have hi : vp_in (nI b) 16 := vp_in_nI hb (by decide)
    exact cb_xblk hb (br_f (by decide) ⟨hi, cb_yl hb ⟨hi, rfl, d, im, c, w, kp, m, rfl, rfl, h⟩⟩)
theorem i_vc_readBackup {k : Nat} {u : SX} {v : SY} (I : i_Rel k u v) (hk : k + 4 ≤ 2048) (v1 : Int32) (v2 : Int32) (v3 : Int32) : wpX_readBackup (fun r => wpY_readBackup (fun r' => r' = r ∧ i_Rel (k + 4) u v) v v1 v2 v3) u v1 v2 v3 := by
  obtain ⟨d, im, c, w, kp, m, rfl, rfl, h⟩ := I
  have J : i_Rel (k + 4) (d, im, c) (d, w, c, kp) := ⟨d, im, c, w, kp, m, rfl, rfl, h⟩
  unfold wpX_readBackup wpY_readBackup
  rcases cb_split v1 (n := 2) (by decide) with o | ⟨a, ha, rfl⟩
  · exact cb_xchO o (br_t rfl (cb_ychO o (br_f (by decide) ⟨rfl, J⟩)))
  obtain ⟨hm, hc⟩ := h.1 a ha
  rcases cb_split v2 (n := m a) (by omega) with o | ⟨q, hq, rfl⟩
  · exact cb_xch ha (br_f (by decide) (cb_xbkO ha hc o (br_t rfl (cb_ych ha (br_t rfl (cb_ybkO ha hc o (br_f (by decide) ⟨rfl, J⟩)))))))
  rcases cb_split v3 (n := 16) (by decide) with o | ⟨b, hb, rfl⟩
  · exact cb_xch ha (br_f (by decide) (cb_xbk ha hc hm hq (br_f (by decide) (cb_xblkO o (br_t rfl (cb_ych ha (br_t rfl (cb_ybk ha hc hm hq (br_t rfl (cb_ylO o ⟨rfl, J⟩))))))))))
  have e : kp (96 * a + 16 * q + b) = im (96 * a + 16 * q + b) := (cb_img h ha hq b hb).symm
  refine cb_xch ha (br_f (by decide) (cb_xbk ha hc hm hq (br_f (by decide) (cb_xblk hb (br_f (by decide) ?_)))))
  unfold wpX_imageStart
  dsimp only
  rw [cb_xs, nI_add, nI_clamp (by omega)]
  refine ⟨vp_in_nI (by omega) (by decide), cb_ych ha (br_t rfl (cb_ybk ha hc hm hq (br_t rfl (cb_yl hb ?_))))⟩
  rw [cb_yi, nI_clamp (by omega)]
  exact ⟨vp_in_nI (by omega) (by decide), e, J⟩
theorem i_vc_backups {k : Nat} {u : SX} {v : SY} (I : i_Rel k u v) (hk : k + 4 ≤ 2048) (v1 : Int32) : wpX_backups (fun r => wpY_backups (fun r' => r' = r ∧ i_Rel (k + 4) u v) v v1) u v1 := by
  obtain ⟨d, im, c, w, kp, m, rfl, rfl, h⟩ := I
  have J : i_Rel (k + 4) (d, im, c) (d, w, c, kp) := ⟨d, im, c, w, kp, m, rfl, rfl, h⟩
  unfold wpX_backups wpY_backups
  rcases cb_split v1 (n := 2) (by decide) with o | ⟨a, ha, rfl⟩
  · exact cb_xchO o (br_t rfl (cb_ychO o (br_f (by decide) ⟨rfl, J⟩)))
  · have ia : vp_in (nI a) 2 := vp_in_nI ha (by decide)
    exact cb_xch ha (br_f (by decide) ⟨ia, cb_ych ha (br_t rfl ⟨ia, rfl, J⟩)⟩)
theorem i_vc_changed {k : Nat} {u : SX} {v : SY} (I : i_Rel k u v) (hk : k + 4 ≤ 2048) (v1 : Int32) : wpX_changed (fun r => wpY_changed (fun r' => r' = r ∧ i_Rel (k + 4) u v) v v1) u v1 := by
  obtain ⟨d, im, c, w, kp, m, rfl, rfl, h⟩ := I
  have J : i_Rel (k + 4) (d, im, c) (d, w, c, kp) := ⟨d, im, c, w, kp, m, rfl, rfl, h⟩
  unfold wpX_changed wpY_changed
  rcases cb_split v1 (n := 2) (by decide) with o | ⟨a, ha, rfl⟩
  · exact cb_xchO o (br_t rfl (cb_ychO o (br_f (by decide) ⟨rfl, J⟩)))
  obtain ⟨hm, hc⟩ := h.1 a ha
  have ia : vp_in (nI a) 2 := vp_in_nI ha (by decide)
  have hn := cb_cnt_at ha hc
  refine cb_xch ha (br_f (by decide) ⟨ia, ?_⟩)
  rcases Nat.eq_zero_or_pos (m a) with z | z
  · rw [z] at hn
    have n1 : ¬ (0 : Int32) ≤ nI 0 - 1 := by decide +kernel
    exact nm_r (by rw [hn]) (br_f n1 (cb_ych ha (br_t rfl ⟨ia, br_t (hn.trans nI_0) ⟨rfl, J⟩⟩)))
  · obtain ⟨q, eq⟩ : ∃ q, m a = q + 1 := ⟨m a - 1, by omega⟩
    rw [eq] at hn
    obtain ⟨r, hX, hY⟩ := cb_cntW (d := d) (c := c) (w := w) (k := q) ha (by omega) (cb_img h ha (by omega))
    have n2 : ¬ c (nI a).toNatClampNeg = 0 := by rw [hn]; exact nI_ne0 (by omega) (by omega)
    have e : c (nI a).toNatClampNeg - 1 = nI q := by rw [hn, nI_pred]
    refine nm_r e (br_t (nI_pos' (by omega)) (hX _ (cb_ych ha (br_t rfl ⟨ia, br_f n2 ⟨ia, ?_⟩⟩))))
    rw [e]
    exact hY _ ⟨rfl, J⟩
theorem i_vc_differ {k : Nat} {u : SX} {v : SY} (I : i_Rel k u v) (hk : k + 4 ≤ 2048) (v1 : Int32) (v2 : Int32) (v3 : Int32) : wpX_differ (fun r => wpY_differ (fun r' => r' = r ∧ i_Rel (k + 4) u v) v v1 v2 v3) u v1 v2 v3 := by
  obtain ⟨d, im, c, w, kp, m, rfl, rfl, h⟩ := I
  have J : i_Rel (k + 4) (d, im, c) (d, w, c, kp) := ⟨d, im, c, w, kp, m, rfl, rfl, h⟩
  unfold wpX_differ wpY_differ
  rcases cb_split v1 (n := 2) (by decide) with o | ⟨a, ha, rfl⟩
  · exact cb_xchO o (br_t rfl (cb_ychO o (br_f (by decide) ⟨rfl, J⟩)))
  obtain ⟨hm, hc⟩ := h.1 a ha
  rcases cb_split v2 (n := m a) (by omega) with o | ⟨p, hp, rfl⟩
  · exact cb_xch ha (br_f (by decide) (cb_xbkO ha hc o (br_t rfl (cb_ych ha (br_t rfl (cb_ybkO ha hc o (br_f (by decide) ⟨rfl, J⟩)))))))
  rcases cb_split v3 (n := m a) (by omega) with o | ⟨q, hq, rfl⟩
  · exact cb_xch ha (br_f (by decide) (cb_xbk ha hc hm hp (br_f (by decide) (cb_xbkO ha hc o (br_t rfl (cb_ych ha (br_t rfl (cb_ybk ha hc hm hp (br_t rfl (cb_ybkO ha hc o (br_f (by decide) ⟨rfl, J⟩)))))))))))
  obtain ⟨r, hX, hY⟩ := cb_dif (d := d) (c := c) (w := w) ha (by omega) (by omega) (cb_img h ha hp) (cb_img h ha hq) 16 0 rfl 0
  rw [nI_0] at hX hY
  refine cb_xch ha (br_f (by decide) (cb_xbk ha hc hm hp (br_f (by decide) (cb_xbk ha hc hm hq (br_f (by decide) ?_)))))
  unfold wpX_imageStart
  dsimp only
  rw [cb_xs, cb_xs]
  exact ⟨17, hX _ (cb_ych ha (br_t rfl (cb_ybk ha hc hm hp (br_t rfl (cb_ybk ha hc hm hq (br_t rfl ⟨17, hY _ ⟨rfl, J⟩⟩))))))⟩
end
