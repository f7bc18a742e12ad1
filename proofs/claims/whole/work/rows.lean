section
theorem pk_us {f : Nat → Int32} {k : Nat} {x : Int32} : upd f k x k = x := if_pos rfl
theorem pk_un {f : Nat → Int32} {k j : Nat} {x : Int32} (h : j ≠ k) : upd f k x j = f j := if_neg h
theorem pk_sub {a b : Nat} (h : b ≤ a) : nI a - nI b = nI (a - b) := by
  obtain ⟨c, rfl⟩ : ∃ c, a = c + b := ⟨a - b, by omega⟩
  rw [← nI_add, Int32.add_sub_cancel, Nat.add_sub_cancel]
theorem pk_m1 (n : Nat) : nI (n + 1) + (-1) = nI n := by
  rw [← nI_1, Int32.add_assoc, show (1 : Int32) + (-1) = 0 from rfl, Int32.add_zero]
theorem pk_mul (a b : Nat) : nI a * nI b = nI (a * b) := (Int32.ofNat_mul a b).symm
theorem pk_ix (x : Int32) {n : Nat} (hn : n < 2 ^ 31) : x < 0 ∨ nI n ≤ x ∨ ∃ j : Nat, j < n ∧ x = nI j := by
  by_cases h : x < 0
  · exact Or.inl h
  · obtain ⟨j, hj, rfl⟩ := nI_of h
    by_cases h2 : j < n
    · exact Or.inr (Or.inr ⟨j, h2, rfl⟩)
    · exact Or.inr (Or.inl (nI_le (by omega) hj))
theorem cb_16 : (16 : Int32) = nI 16 := by decide +kernel
theorem cb_96 : (96 : Int32) = nI 96 := by decide +kernel
theorem cb_6 : (6 : Int32) = nI 6 := by decide +kernel
theorem cb_5 : (5 : Int32) = nI 5 := by decide +kernel
/-- an argument that isn't one of 0 .. n - 1 -/
def cb_out (x : Int32) (n : Nat) : Prop := x < 0 ∨ nI n ≤ x
theorem cb_split (x : Int32) {n : Nat} (hn : n < 2 ^ 31) : cb_out x n ∨ ∃ j : Nat, j < n ∧ x = nI j := by
  rcases pk_ix x hn with h | h | h
  · exact Or.inl (Or.inl h)
  · exact Or.inl (Or.inr h)
  · exact Or.inr h
theorem cb_gt {x : Int32} {n : Nat} (hn : n + 1 < 2 ^ 31) (h : nI (n + 1) ≤ x) : nI n < x := by
  rw [Int32.le_iff_toInt_le, nI_toInt hn] at h
  rw [Int32.lt_iff_toInt_lt, nI_toInt (by omega)]
  omega
/-! the tests of block, chain, backup, as each side makes them -/
theorem cb_xblkO {post : Int32 → Prop} {x : Int32} (h : cb_out x 16) (hp : post 0) : wpX_isBlock post x := by
  by_cases h0 : x < 0
  · exact br_t h0 hp
  · have h1 : (16 : Int32) ≤ x := by rw [cb_16]; exact h.resolve_left h0
    exact br_f h0 (br_t h1 hp)
theorem cb_xblk {post : Int32 → Prop} {b : Nat} (h : b < 16) (hp : post 1) : wpX_isBlock post (nI b) :=
  br_f (nI_pos (by omega)) (br_f (nI_ge (b := 16) h (by decide)) hp)
theorem cb_ygO {x : Int32} {A B : Prop} (h : cb_out x 16) (a : A) : (x < 0 → A) ∧ (¬ x < 0 → ((15 < x → A) ∧ (¬ 15 < x → B))) := by
  by_cases h0 : x < 0
  · exact br_t h0 a
  · exact br_f h0 (br_t (cb_gt (n := 15) (by decide) (h.resolve_left h0)) a)
theorem cb_yg {b : Nat} {A B : Prop} (h : b < 16) (hb : B) : (nI b < 0 → A) ∧ (¬ nI b < 0 → ((15 < nI b → A) ∧ (¬ 15 < nI b → B))) :=
  br_f (nI_pos (by omega)) (br_f (nI_nlt (a := 15) (b := b) (by omega) (by decide)) hb)
theorem cb_ylO {x : Int32} {A B : Prop} (h : cb_out x 16) (a : A) : (x < 0 → A) ∧ (¬ x < 0 → ((x ≤ 15 → B) ∧ (¬ x ≤ 15 → A))) := by
  by_cases h0 : x < 0
  · exact br_t h0 a
  · exact br_f h0 (br_f (Int32.not_le.mpr (cb_gt (n := 15) (by decide) (h.resolve_left h0))) a)
theorem cb_yl {b : Nat} {A B : Prop} (h : b < 16) (hb : B) : (nI b < 0 → A) ∧ (¬ nI b < 0 → ((nI b ≤ 15 → B) ∧ (¬ nI b ≤ 15 → A))) :=
  br_f (nI_pos (by omega)) (br_t (nI_le (a := b) (b := 15) (by omega) (by decide)) hb)
theorem cb_xchO {post : Int32 → Prop} {x : Int32} (h : cb_out x 2) (hp : post 0) : wpX_isChain post x := by
  by_cases h0 : x < 0
  · exact br_t h0 hp
  · exact br_f h0 (br_t (h.resolve_left h0) hp)
theorem cb_xch {post : Int32 → Prop} {a : Nat} (h : a < 2) (hp : post 1) : wpX_isChain post (nI a) :=
  br_f (nI_pos (by omega)) (br_f (nI_ge (b := 2) h (by decide)) hp)
theorem cb_ychO {post : Int32 → Prop} {d w c kp : Nat → Int32} {x : Int32} (h : cb_out x 2) (hp : post 1) : wpY_badChain post (d, w, c, kp) x := by
  by_cases h0 : x < 0
  · exact br_t h0 hp
  · exact br_f h0 (br_f (Int32.not_le.mpr (cb_gt (n := 1) (by decide) (h.resolve_left h0))) hp)
theorem cb_ych {post : Int32 → Prop} {d w c kp : Nat → Int32} {a : Nat} (h : a < 2) (hp : post 0) : wpY_badChain post (d, w, c, kp) (nI a) :=
  br_f (nI_pos (by omega)) (br_t (nI_le (a := a) (b := 1) (by omega) (by decide)) hp)
theorem cb_cnt_at {c : Nat → Int32} {a m : Nat} (ha : a < 2) (hc : c a = nI m) : c (nI a).toNatClampNeg = nI m := by
  rw [nI_clamp (by omega)]; exact hc
theorem cb_xbkO {post : Int32 → Prop} {d im c : Nat → Int32} {a m : Nat} {x : Int32} (ha : a < 2) (hc : c a = nI m) (h : cb_out x m) (hp : post 0) : wpX_isBackup post (d, im, c) (nI a) x := by
  by_cases h0 : x < 0
  · exact br_t h0 hp
  · exact br_f h0 ⟨vp_in_nI ha (by decide), br_t (by rw [cb_cnt_at ha hc]; exact h.resolve_left h0) hp⟩
theorem cb_xbk {post : Int32 → Prop} {d im c : Nat → Int32} {a m k : Nat} (ha : a < 2) (hc : c a = nI m) (hm : m ≤ 6) (hk : k < m) (hp : post 1) : wpX_isBackup post (d, im, c) (nI a) (nI k) :=
  br_f (nI_pos (by omega)) ⟨vp_in_nI ha (by decide), br_f (by rw [cb_cnt_at ha hc]; exact nI_ge hk (by omega)) hp⟩
theorem cb_ybkO {post : Int32 → Prop} {d w c kp : Nat → Int32} {a m : Nat} {x : Int32} (ha : a < 2) (hc : c a = nI m) (h : cb_out x m) (hp : post 1) : wpY_none post (d, w, c, kp) (nI a) x := by
  by_cases h0 : x < 0
  · exact br_t h0 hp
  · by_cases h5 : 5 < x
    · exact br_f h0 (br_t h5 hp)
    · exact br_f h0 (br_f h5 ⟨vp_in_nI ha (by decide), br_f (by rw [cb_cnt_at ha hc]; exact Int32.not_lt.mpr (h.resolve_left h0)) hp⟩)
theorem cb_ybk {post : Int32 → Prop} {d w c kp : Nat → Int32} {a m k : Nat} (ha : a < 2) (hc : c a = nI m) (hm : m ≤ 6) (hk : k < m) (hp : post 0) : wpY_none post (d, w, c, kp) (nI a) (nI k) :=
  br_f (nI_pos (by omega)) (br_f (nI_nlt (a := 5) (b := k) (by omega) (by decide)) ⟨vp_in_nI ha (by decide), br_t (by rw [cb_cnt_at ha hc]; exact nI_lt hk (by omega)) hp⟩)
/-! the place of an image -/
theorem cb_xs (a k : Nat) : nI a * 96 + nI k * 16 = nI (96 * a + 16 * k) := by
  rw [cb_96, cb_16, pk_mul, pk_mul, nI_add]
  exact congrArg nI (by omega)
theorem cb_ys (a k : Nat) : (nI a * 6 + nI k) * 16 = nI (96 * a + 16 * k) := by
  rw [cb_6, cb_16, pk_mul, nI_add, pk_mul]
  exact congrArg nI (by omega)
theorem cb_yi (a k b : Nat) : (nI a * 6 + nI k) * 16 + nI b = nI (96 * a + 16 * k + b) := by
  rw [cb_ys, nI_add]
theorem cb_ye (a : Nat) : (nI a * 6 + 5) * 16 = nI (96 * a + 80) := by
  rw [cb_5, cb_ys]
/-! the relation: the same disk, the same counts; the images agree below each count -/
def cb_R (m : Nat → Nat) (im c kp : Nat → Int32) : Prop :=
  (∀ a, a < 2 → m a ≤ 6 ∧ c a = nI (m a)) ∧ (∀ a, a < 2 → ∀ j, j < 16 * m a → im (96 * a + j) = kp (96 * a + j))
def i_Rel (_ : Nat) (u : SX) (v : SY) : Prop :=
  ∃ (d im c w kp : Nat → Int32) (m : Nat → Nat), u = (d, im, c) ∧ v = (d, w, c, kp) ∧ cb_R m im c kp
end
