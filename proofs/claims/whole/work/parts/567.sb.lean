/-! the row of tokens; the next one is taken -/
def SPL (n : Nat) (B : Nat → Int) (a r : Nat) (b : Nat → Nat) (σ : Sg) : Prop := σ 5 4 = (r : Nat) ∧ r ≤ a ∧ b 0 = 0 ∧ b r ≤ a ∧ (∀ i, b r ≤ i → i < a → B i = 10 ∨ B i = 32) ∧
  ∀ j, j < r → ∃ k v p, k ≠ 0 ∧ k < 16 ∧ v < 1099511627776 ∧ σ 7 j = (ec k p v : Nat) ∧ TOK n B (b j) k v p (b (j + 1))
theorem rwU_4 (σ : Sg) (r k p v : Nat) : rwU σ r k p v 5 4 = (r + 1 : Nat) := by unfold rwU; rw [up_e]
theorem rwU_r (σ : Sg) (r k p v : Nat) : rwU σ r k p v 7 r = (ec k p v : Nat) := by unfold rwU; rw [up_o (by omega), up_e]
theorem rwU_f {σ : Sg} {r k p v o x : Nat} (h1 : o ≠ 7 ∨ x ≠ r) (h2 : o ≠ 5 ∨ x ≠ 4) : rwU σ r k p v o x = σ o x := by unfold rwU; rw [up_v, if_neg (by omega), up_v, if_neg (by omega)]
theorem TXH.ru {n : Nat} {B : Nat → Int} {σ : Sg} (h : TXH n B σ) (r k p v : Nat) : TXH n B (rwU σ r k p v) :=
  h.cg (rwU_f (by omega) (by omega)) (fun x => rwU_f (by omega) (by omega)) (fun x => rwU_f (by omega) (by omega))
theorem SPL.add {n a r k v p e : Nat} {B : Nat → Int} {b : Nat → Nat} {σ : Sg} (h : SPL n B a r b σ) (t : TOK n B (b r) k v p e) (hk : k ≠ 0) (hk' : k < 16) (hv : v < 1099511627776) (he : a < e) :
    SPL n B e (r + 1) (fun j => if j ≤ r then b j else e) (rwU σ r k p v) := by
  obtain ⟨h1, h2, h3, h4, h5, h6⟩ := h
  refine ⟨rwU_4 .., by omega, ?_, ?_, fun i q1 q2 => ?_, fun j hj => ?_⟩
  · show (if 0 ≤ r then b 0 else e) = 0
    rw [if_pos (by omega)]; exact h3
  · show (if r + 1 ≤ r then b (r + 1) else e) ≤ e
    rw [if_neg (by omega)]; exact Nat.le_refl e
  · have q : (if r + 1 ≤ r then b (r + 1) else e) ≤ i := q1
    rw [if_neg (by omega)] at q; omega
  · show ∃ k' v' p', k' ≠ 0 ∧ k' < 16 ∧ v' < 1099511627776 ∧ rwU σ r k p v 7 j = (ec k' p' v' : Nat) ∧ TOK n B (if j ≤ r then b j else e) k' v' p' (if j + 1 ≤ r then b (j + 1) else e)
    by_cases z : j = r
    · subst z
      refine ⟨k, v, p, hk, hk', hv, rwU_r .., ?_⟩
      rw [if_pos (by omega), if_neg (by omega)]; exact t
    · obtain ⟨k', v', p', g1, g2, g3, g4, g5⟩ := h6 j (by omega)
      refine ⟨k', v', p', g1, g2, g3, by rw [rwU_f (by omega) (by omega)]; exact g4, ?_⟩
      rw [if_pos (by omega), if_pos (by omega)]; exact g5
theorem split_l {n : Nat} {B : Nat → Int} {K : Sg → Rs} : ∀ m a i r f b σ, n - a ≤ m → a ≤ n → i ≤ a → m < f → TXH n B σ → SPL n B a r b σ →
    ∃ σ' r' b', To_split_L36 K f a i σ = K σ' ∧ SPL n B n r' b' σ' ∧ (∀ o k, o ≠ 7 → (o ≠ 5 ∨ k ≠ 4) → σ' o k = σ o k) := by
  intro m
  induction m with
  | zero =>
    intro a i r f b σ hm ha hi hf hx h
    obtain ⟨f, rfl⟩ : ∃ x, f = x + 1 := ⟨f - 1, by omega⟩
    obtain rfl : a = n := by omega
    refine ⟨σ, r, b, ?_, h, fun _ _ _ _ => rfl⟩
    rw [To_split_L36, hx.2.1]
    by_cases c : (i : Int) < 900
    · rw [if_pos c, if_neg (by omega)]
    · rw [if_neg c]
  | succ m ih =>
    intro a i r f b σ hm ha hi hf hx h
    obtain ⟨f, rfl⟩ : ∃ x, f = x + 1 := ⟨f - 1, by omega⟩
    have h0 := hx.1
    by_cases z : a = n
    · subst z
      refine ⟨σ, r, b, ?_, h, fun _ _ _ _ => rfl⟩
      rw [To_split_L36, hx.2.1]
      by_cases c : (i : Int) < 900
      · rw [if_pos c, if_neg (by omega)]
      · rw [if_neg c]
    · have h' := h
      obtain ⟨h1, h2, h3, h4, h5, h6⟩ := h'
      rw [To_split_L36, if_pos (by omega), hx.2.1, if_pos (by omega), byte_h hx, bd_s]
      by_cases cL : isL (B a)
      · obtain ⟨e, k, v, e1, e2, e3, e4, e5, e6, e7, e8, e9⟩ := spl_l hx h1 (by omega) (by omega) cL
        have t : TOK n B (b r) k v a e := ⟨h4, ha, h5, .inr (.inl ⟨e1, e2, e3, e4, e5⟩)⟩
        obtain ⟨σ', r', b', g1, g2, g3⟩ := ih e (i + 1) (r + 1) f _ _ (by omega) e2 (by omega) (by omega) (hx.ru r k a v) (h.add t e6 e7 e8 e1)
        refine ⟨σ', r', b', ?_, g2, fun o k q1 q2 => by rw [g3 o k q1 q2, rwU_f (by omega) (by omega)]⟩
        rw [leth_1 cL, bd_s, if_neg i10, e9, bd_s, nm_k, w32_i (by omega) (by omega), suc]; exact g1
      · rw [leth_0 cL, bd_s, if_pos rfl]
        by_cases cD : isD (B a)
        · obtain ⟨e, k, v, e1, e2, e3, e4, e5, e6, e7, e8, e9⟩ := spl_d hx h1 (by omega) (by omega) cD
          have t : TOK n B (b r) k v a e := ⟨h4, ha, h5, .inr (.inr (.inl ⟨e1, e2, e3, e4, e5⟩))⟩
          obtain ⟨σ', r', b', g1, g2, g3⟩ := ih e (i + 1) (r + 1) f _ _ (by omega) e2 (by omega) (by omega) (hx.ru r k a v) (h.add t e6 e7 e8 e1)
          refine ⟨σ', r', b', ?_, g2, fun o k q1 q2 => by rw [g3 o k q1 q2, rwU_f (by omega) (by omega)]⟩
          rw [digh_1 cD, bd_s, if_neg i10, e9, bd_s, nm_k, w32_i (by omega) (by omega), suc]; exact g1
        · rw [digh_0 cD, bd_s, if_pos rfl]
          by_cases cB : B a = 10 ∨ B a = 32
          · have hS : SPL n B (a + 1) r b σ := ⟨h1, by omega, h3, by omega, fun i q1 q2 => by
              by_cases y : i = a
              · rw [y]; exact cB
              · exact h5 i q1 (by omega), h6⟩
            obtain ⟨σ', r', b', g1, g2, g3⟩ := ih (a + 1) (i + 1) r f b σ (by omega) (by omega) (by omega) (by omega) hx hS
            refine ⟨σ', r', b', ?_, g2, g3⟩
            rw [spl_b cB, bd_s, nm_k, nm_k, w32_i (x := (a : Int) + 1) (by omega) (by omega), w32_i (by omega) (by omega), suc, suc]; exact g1
          · have cB' : B a ≠ 10 ∧ B a ≠ 32 := by omega
            obtain ⟨k, v, e5, e6, e7, e8, e9⟩ := spl_s (σ := σ) h1 (by omega) (p := a) (by omega) cB'
            have t : TOK n B (b r) k v a (a + 1) := ⟨h4, ha, h5, .inr (.inr (.inr ⟨by omega, rfl, cL, cD, cB'.1, cB'.2, e5⟩))⟩
            obtain ⟨σ', r', b', g1, g2, g3⟩ := ih (a + 1) (i + 1) (r + 1) f _ _ (by omega) (by omega) (by omega) (by omega) (hx.ru r k a v) (h.add t e6 e7 e8 (by omega))
            refine ⟨σ', r', b', ?_, g2, fun o k q1 q2 => by rw [g3 o k q1 q2, rwU_f (by omega) (by omega)]⟩
            rw [e9, bd_s, nm_k, nm_k, w32_i (x := (a : Int) + 1) (by omega) (by omega), w32_i (by omega) (by omega), suc, suc]; exact g1
def RW (n R : Nat) (B : Nat → Int) (b : Nat → Nat) (σ : Sg) : Prop := n ≤ 900 ∧ b 0 = 0 ∧ σ 5 4 = (R : Nat) ∧ R ≤ n + 1 ∧ 0 < R ∧ ∀ j, j < R → ∃ k v p, (k = 0 ↔ j + 1 = R) ∧ k < 16 ∧ v < 1099511627776 ∧ σ 7 j = (ec k p v : Nat) ∧ TOK n B (b j) k v p (b (j + 1))
theorem RW.cg {n R : Nat} {B : Nat → Int} {b : Nat → Nat} {σ σ' : Sg} (h : RW n R B b σ) (h4 : σ' 5 4 = σ 5 4) (h7 : ∀ k, σ' 7 k = σ 7 k) : RW n R B b σ' := by
  obtain ⟨h0, h1, h2, h3, h5, h6⟩ := h
  exact ⟨h0, h1, by rw [h4]; exact h2, h3, h5, fun j hj => by rw [h7]; exact h6 j hj⟩
theorem take_h {n R j : Nat} {B : Nat → Int} {b : Nat → Nat} {σ : Sg} (h : RW n R B b σ) (hq : σ 5 5 + 1 = (j : Nat)) (hj : j < R) : ∃ σ' k v p, To_take σ = some (0, σ') ∧ RW n R B b σ' ∧ σ' 5 5 = (j : Nat) ∧ σ' 5 6 = (k : Nat) ∧ σ' 5 7 = (p : Nat) ∧ σ' 5 8 = (v : Nat) ∧ σ' 5 9 = σ 5 7 ∧ σ' 5 10 = σ 5 8 ∧
    TOK n B (b j) k v p (b (j + 1)) ∧ (k = 0 ↔ j + 1 = R) ∧ k < 16 ∧ v < 1099511627776 ∧ (∀ o x, (o ≠ 5 ∨ x < 5 ∨ 10 < x) → σ' o x = σ o x) := by
  have h' := h
  obtain ⟨h0, h1, h2, h3, h5, h6⟩ := h'
  obtain ⟨k, v, p, k1, k2, k3, k4, k5⟩ := h6 j hj
  have k6 := k5.2.1
  have hp : p < 4096 := by omega
  rw [To_take, nm_k, nm_k]
  have f5 : up_s (up_s σ 5 9 (σ 5 7)) 5 10 (up_s σ 5 9 (σ 5 7) 5 8) 5 5 = σ 5 5 := by rw [up_k (by omega), up_k (by omega)]
  have f4 : up_s (up_s σ 5 9 (σ 5 7)) 5 10 (up_s σ 5 9 (σ 5 7) 5 8) 5 4 = σ 5 4 := by rw [up_k (by omega), up_k (by omega)]
  have f9 : up_s (up_s σ 5 9 (σ 5 7)) 5 10 (up_s σ 5 9 (σ 5 7) 5 8) 5 9 = σ 5 7 := by rw [up_k (by omega), up_e]
  have f10 : up_s (up_s σ 5 9 (σ 5 7)) 5 10 (up_s σ 5 9 (σ 5 7) 5 8) 5 10 = σ 5 8 := by rw [up_e, up_k (by omega)]
  have ff : ∀ o x, (o ≠ 5 ∨ x < 9 ∨ 10 < x) → up_s (up_s σ 5 9 (σ 5 7)) 5 10 (up_s σ 5 9 (σ 5 7) 5 8) o x = σ o x := fun o x q => by rw [up_v, if_neg (by omega), up_v, if_neg (by omega)]
  generalize up_s (up_s σ 5 9 (σ 5 7)) 5 10 (up_s σ 5 9 (σ 5 7) 5 8) = s at *
  have f7 : ∀ x, s 7 x = σ 7 x := fun x => ff 7 x (by omega)
  rw [f5, f4, h2, if_pos (by rw [w32_i (by omega) (by omega)]; omega), nm_k, hq, w32_i (by omega) (by omega), To_take_J39, up_e, if_neg (by omega), if_pos (by omega), rd_k (by omega) (by omega), Int.toNat_natCast, up_o (by omega), f7, k4, To_take_J71, nm_k, nm_k, nm_k, ec_k k2, ec_p k2 hp k3, ec_v k2 hp k3]
  refine ⟨_, k, v, p, rfl, h.cg ?_ (fun x => ?_), ?_, ?_, ?_, up_e, ?_, ?_, k5, k1, k2, k3, fun o x q => ?_⟩
  · rw [up_k (by omega), up_k (by omega), up_k (by omega), up_k (by omega)]; exact f4
  · rw [up_o (by omega), up_o (by omega), up_o (by omega), up_o (by omega)]; exact f7 x
  · rw [up_k (by omega), up_k (by omega), up_k (by omega), up_e]
  · rw [up_k (by omega), up_k (by omega), up_e]
  · rw [up_k (by omega), up_e]
  · rw [up_k (by omega), up_k (by omega), up_k (by omega), up_k (by omega)]; exact f9
  · rw [up_k (by omega), up_k (by omega), up_k (by omega), up_k (by omega)]; exact f10
  · rw [up_v, if_neg (by omega), up_v, if_neg (by omega), up_v, if_neg (by omega), up_v, if_neg (by omega)]; exact ff o x (by omega)
/-- the whole text is split, its first token is taken -/
theorem split_h {n : Nat} {B : Nat → Int} {σ : Sg} (hn : n ≤ 900) (hm : (n : Int) ≤ σ 5 1) (hb : ∀ k, k < n → an32 (σ 6 k) 255 = B k) (hz : ∀ k, n ≤ k → B k = 0) (hkc : ∀ k : Nat, σ 113 k = kcl.getD k 0) : ∃ σ' R b k v p, To_split n σ = some (0, σ') ∧ RW n R B b σ' ∧ σ' 5 5 = 0 ∧ σ' 5 6 = (k : Nat) ∧ σ' 5 7 = (p : Nat) ∧ σ' 5 8 = (v : Nat) ∧
    TOK n B 0 k v p (b 1) ∧ (k = 0 ↔ 1 = R) ∧ k < 16 ∧ v < 1099511627776 ∧ (∀ o x, o ≠ 7 → (o ≠ 5 ∨ x < 2 ∨ x = 3 ∨ 12 < x) → σ' o x = σ o x) := by
  rw [To_split, nm_k, nm_k, nm_k, nm_k, nm_k, show min (n : Int) (σ 5 1) = n by omega]
  have f2 : up_s (up_s (up_s (up_s (up_s σ 5 2 n) 5 4 0) 5 5 (-1)) 5 11 0) 5 12 (-1) 5 2 = n := by rw [up_k (by omega), up_k (by omega), up_k (by omega), up_k (by omega), up_e]
  have f4 : up_s (up_s (up_s (up_s (up_s σ 5 2 n) 5 4 0) 5 5 (-1)) 5 11 0) 5 12 (-1) 5 4 = 0 := by rw [up_k (by omega), up_k (by omega), up_k (by omega), up_e]
  have f5 : up_s (up_s (up_s (up_s (up_s σ 5 2 n) 5 4 0) 5 5 (-1)) 5 11 0) 5 12 (-1) 5 5 = -1 := by rw [up_k (by omega), up_k (by omega), up_e]
  have ff : ∀ o x, (o ≠ 5 ∨ x < 2 ∨ x = 3 ∨ 12 < x) → up_s (up_s (up_s (up_s (up_s σ 5 2 n) 5 4 0) 5 5 (-1)) 5 11 0) 5 12 (-1) o x = σ o x := fun o x q => by
    rw [up_v, if_neg (by omega), up_v, if_neg (by omega), up_v, if_neg (by omega), up_v, if_neg (by omega), up_v, if_neg (by omega)]
  generalize up_s (up_s (up_s (up_s (up_s σ 5 2 (n : Int)) 5 4 0) 5 5 (-1)) 5 11 0) 5 12 (-1) = s at *
  have hx : TXH n B s := ⟨hn, f2, fun k hk => by rw [ff 6 k (by omega)]; exact hb k hk, hz, fun k => by rw [ff 113 k (by omega)]; exact hkc k⟩
  obtain ⟨σ1, r, b, g1, ⟨g2, g3, g4, g5, g6, g7⟩, g8⟩ := split_l (K := fun s22 => To_split_J108 s22) n 0 0 0 fu (fun _ => 0) s (by omega) (by omega) (by omega) (by unfold fu; omega) hx ⟨f4, by omega, rfl, Nat.le_refl 0, fun i _ q => absurd q (by omega), fun j hj => absurd hj (by omega)⟩
  have e2 : σ1 5 2 = n := by rw [g8 5 2 (by omega) (by omega)]; exact f2
  have e5 : σ1 5 5 = -1 := by rw [g8 5 5 (by omega) (by omega)]; exact f5
  have hr : RW n (r + 1) B (fun j => if j ≤ r then b j else n) (rwU σ1 r 0 n 0) := by
    refine ⟨hn, ?_, rwU_4 .., by omega, by omega, fun j hj => ?_⟩
    · show (if 0 ≤ r then b 0 else n) = 0
      rw [if_pos (by omega)]; exact g4
    · show ∃ k' v' p', (k' = 0 ↔ j + 1 = r + 1) ∧ k' < 16 ∧ v' < 1099511627776 ∧ rwU σ1 r 0 n 0 7 j = (ec k' p' v' : Nat) ∧ TOK n B (if j ≤ r then b j else n) k' v' p' (if j + 1 ≤ r then b (j + 1) else n)
      by_cases z : j = r
      · subst z
        refine ⟨0, 0, n, by omega, by omega, by omega, rwU_r .., ?_⟩
        rw [if_pos (by omega), if_neg (by omega)]
        exact ⟨g5, by omega, g6, .inl ⟨rfl, rfl, rfl, rfl⟩⟩
      · obtain ⟨k', v', p', q1, q2, q3, q4, q5⟩ := g7 j (by omega)
        refine ⟨k', v', p', by omega, q2, q3, by rw [rwU_f (by omega) (by omega)]; exact q4, ?_⟩
        rw [if_pos (by omega), if_pos (by omega)]; exact q5
  obtain ⟨σ2, k, v, p, t1, t2, t3, t4, t5, t6, t7, t8, t9, t10, t11, t12, t13⟩ := take_h (j := 0) hr (by rw [rwU_f (by omega) (by omega), e5]; omega) (by omega)
  have t9' : TOK n B 0 k v p (if 1 ≤ r then b 1 else n) := by
    have e : (if 0 ≤ r then b 0 else n) = 0 := by rw [if_pos (by omega)]; exact g4
    have t9'' : TOK n B (if 0 ≤ r then b 0 else n) k v p (if 1 ≤ r then b 1 else n) := t9
    rw [e] at t9''; exact t9''
  refine ⟨σ2, r + 1, _, k, v, p, ?_, t2, t3, t4, t5, t6, t9', by omega, t11, t12, fun o x q1 q2 => ?_⟩
  · refine Eq.trans g1 ?_
    show To_split_J108 σ1 = _
    rw [To_split_J108, e2, show To_add 0 n 0 σ1 = _ from add_h (k := 0) (p := n) (v := 0) g2 (by omega) (by omega) (by omega) (by omega), bd_s, t1, bd_s]
  · rw [t13 o x (by omega), rwU_f (by omega) (by omega), g8 o x q1 (by omega)]; exact ff o x (by omega)
