/-! years in the making: open blocks, orders more -/
def ob (σ : Sg) (i : Nat) : Nat := if (σ 37 i = 20 ∨ σ 37 i = 21 ∨ σ 37 i = 22) ∧ σ 41 i = -1 then 1 else 0
def obs (σ : Sg) : Nat → Nat
  | 0 => 0
  | i + 1 => obs σ i + ob σ i
theorem ob_c {σ σ' : Sg} {i : Nat} (h1 : σ' 37 i = σ 37 i) (h2 : σ' 41 i = σ 41 i) : ob σ' i = ob σ i := by unfold ob; rw [h1, h2]
theorem obs_c {σ σ' : Sg} : ∀ {O : Nat}, (∀ i, i < O → ob σ' i = ob σ i) → obs σ' O = obs σ O
  | 0, _ => rfl
  | O + 1, h => by rw [obs, obs, obs_c (fun i hi => h i (by omega)), h O (by omega)]
theorem obs_z {σ : Sg} {a : Nat} : ∀ {O : Nat}, a ≤ O → (∀ i, a ≤ i → i < O → ob σ i = 0) → obs σ O = obs σ a
  | 0, h, _ => by rw [show a = 0 by omega]
  | O + 1, h, hz => by
    rcases Nat.lt_or_ge O a with z | z
    · rw [show a = O + 1 by omega]
    · rw [obs, obs_z z (fun i h1 h2 => hz i h1 (by omega)), hz O z (by omega)]; rfl
theorem blk_i (x : Int) (σ : Sg) : Ye_isBlock x σ = some (if x = 20 ∨ x = 21 ∨ x = 22 then 1 else 0, σ) := by
  rw [Ye_isBlock]
  by_cases h1 : x = 20
  · rw [if_pos h1, if_pos (.inl h1)]
  · rw [if_neg h1]
    by_cases h2 : x = 21
    · rw [if_pos h2, if_pos (.inr (.inl h2))]
    · rw [if_neg h2]
      by_cases h3 : x = 22
      · rw [if_pos h3, if_pos (.inr (.inr h3))]
      · rw [if_neg h3, if_neg (by omega)]
theorem obs_b (σ : Sg) : ∀ O, obs σ O ≤ O
  | 0 => Nat.le_refl 0
  | O + 1 => by
    have := obs_b σ O
    rw [obs]; unfold ob; split <;> omega
theorem depth_h {σ : Sg} {O : Nat} (h5 : σ 36 5 = (O : Nat)) (hO : O ≤ 60) : Ye_depth 36 σ = some (((obs σ O : Nat) : Int), σ) := by
  rw [Ye_depth]
  refine loopN (X := fun m k => Ye_depth_L4 36 m (obs σ k : Nat) k σ) (W := O) ?_ ?_ fu (by unfold fu; omega)
  · intro k m hk
    show Ye_depth_L4 36 (m + 1) (obs σ k : Nat) k σ = Ye_depth_L4 36 m (obs σ (k + 1) : Nat) ((k + 1 : Nat) : Int) σ
    have hb := obs_b σ k
    rw [Ye_depth_L4, h5, if_pos (by omega), if_pos (by omega), rd_k (by omega) (by omega), Int.toNat_natCast, blk_i, bd_s]
    by_cases c : σ 37 k = 20 ∨ σ 37 k = 21 ∨ σ 37 k = 22
    · rw [if_pos c, if_neg i10, rd_k (by omega) (by omega)]
      by_cases d : σ 41 k = -1
      · have e : obs σ (k + 1) = obs σ k + 1 := by rw [obs]; unfold ob; rw [if_pos ⟨c, d⟩]
        rw [if_pos d, nm_k, nm_k, w32_i (x := (obs σ k : Int) + 1) (by omega) (by omega), w32_i (by omega) (by omega), suc, suc, e]
      · have e : obs σ (k + 1) = obs σ k := by rw [obs]; unfold ob; rw [if_neg (fun z => d z.2)]; rfl
        rw [if_neg d, nm_k, nm_k, w32_i (x := (obs σ k : Int) + 0) (by omega) (by omega), w32_i (by omega) (by omega), suc, e, Int.add_zero]
    · have e : obs σ (k + 1) = obs σ k := by rw [obs]; unfold ob; rw [if_neg (fun z => c z.1)]; rfl
      rw [if_neg c, if_pos rfl, nm_k, nm_k, w32_i (x := (obs σ k : Int) + 0) (by omega) (by omega), w32_i (by omega) (by omega), suc, e, Int.add_zero]
  · intro m
    show Ye_depth_L4 36 (m + 1) (obs σ O : Nat) O σ = _
    rw [Ye_depth_L4, h5, if_neg (by omega)]
theorem latest_h {σ : Sg} {O x : Nat} (h5 : σ 36 5 = (O : Nat)) (hO : O ≤ 60) (hx : x < O) (h1 : ob σ x = 1) (hz : ∀ i, x < i → i < O → ob σ i = 0) : Ye_latestOpen 36 σ = some ((x : Int), σ) := by
  have key : ∀ d i f, i = x + d → d < f → i < O → Ye_latestOpen_L12 36 f (i : Nat) σ = some ((x : Int), σ) := by
    intro d
    induction d with
    | zero =>
      intro i f hi hf ho
      obtain ⟨f, rfl⟩ : ∃ x, f = x + 1 := ⟨f - 1, by omega⟩
      obtain rfl : i = x := hi
      have c : (σ 37 i = 20 ∨ σ 37 i = 21 ∨ σ 37 i = 22) ∧ σ 41 i = -1 := by
        unfold ob at h1
        exact Classical.byContradiction (fun z => by rw [if_neg z] at h1; omega)
      rw [Ye_latestOpen_L12, if_neg (by omega), rd_k (by omega) (by omega), Int.toNat_natCast, blk_i, bd_s, if_pos c.1, if_neg i10, rd_k (by omega) (by omega), if_pos c.2]
    | succ d ih =>
      intro i f hi hf ho
      obtain ⟨f, rfl⟩ : ∃ x, f = x + 1 := ⟨f - 1, by omega⟩
      have c := hz i (by omega) ho
      have g := ih (i - 1) f (by omega) (by omega) (by omega)
      have e : w32 ((i : Int) + -1) = ((i - 1 : Nat) : Int) := w_p (by omega) (by omega)
      rw [Ye_latestOpen_L12, if_neg (by omega), rd_k (by omega) (by omega), Int.toNat_natCast, blk_i, bd_s]
      by_cases q : σ 37 i = 20 ∨ σ 37 i = 21 ∨ σ 37 i = 22
      · have q2 : ¬ σ 41 i = -1 := fun z => by unfold ob at c; rw [if_pos ⟨q, z⟩] at c; omega
        rw [if_pos q, if_neg i10, rd_k (by omega) (by omega), if_neg q2, nm_k, e]; exact g
      · rw [if_neg q, if_pos rfl, nm_k, e]; exact g
  rw [Ye_latestOpen, nm_k, h5, w_p (x := min (O : Int) 60 - 1) (n := O - 1) (by omega) (by omega)]
  exact key (O - 1 - x) (O - 1) fu (by omega) (by unfold fu; omega) (by omega)
def yaH (σ : Sg) (O S : Nat) (q f s t : Int) : Sg := up_s (up_s (up_s (up_s (up_s (up_s (up_s σ 37 O q) 38 O f) 39 O s) 40 O t) 41 O (-1)) 36 5 (O + 1 : Nat)) 36 6 (S : Nat)
theorem ya_h {σ : Sg} {O S : Nat} (h5 : σ 36 5 = (O : Nat)) (h6 : σ 36 6 = (S : Nat)) (hO : O < 60) (hS : S ≤ 30) (q f s t : Int) : Ye_add 36 q f s t σ = some (1, yaH σ O (if q = 23 then S else S + 1) q f s t) := by
  rw [Ye_add, h5, if_pos (by omega), wr_k (by omega) (by omega), Int.toNat_natCast]
  rw [up_o (by omega), h5, wr_k (by omega) (by omega), Int.toNat_natCast]
  rw [up_o (by omega), up_o (by omega), h5, wr_k (by omega) (by omega), Int.toNat_natCast]
  rw [up_o (by omega), up_o (by omega), up_o (by omega), h5, wr_k (by omega) (by omega), Int.toNat_natCast]
  rw [up_o (by omega), up_o (by omega), up_o (by omega), up_o (by omega), h5, wr_k (by omega) (by omega), Int.toNat_natCast]
  rw [nm_k, up_o (by omega), up_o (by omega), up_o (by omega), up_o (by omega), up_o (by omega), h5, w_p (x := (O : Int) + 1) (n := O + 1) (by omega) (by omega)]
  by_cases c : q = 23
  · rw [if_pos c, if_pos c, nm_k, up_k (by omega), up_o (by omega), up_o (by omega), up_o (by omega), up_o (by omega), up_o (by omega), h6, w_p (x := (S : Int) + 0) (n := S) (by omega) (by omega)]; rfl
  · rw [if_neg c, if_neg c, nm_k, up_k (by omega), up_o (by omega), up_o (by omega), up_o (by omega), up_o (by omega), up_o (by omega), h6, w_p (x := (S : Int) + 1) (n := S + 1) (by omega) (by omega)]; rfl
section
variable {σ : Sg} {O S : Nat} {q f s t : Int}
theorem yaH_f {o k : Nat} (h : ¬ (37 ≤ o ∧ o ≤ 41 ∧ k = O) ∧ ¬ (o = 36 ∧ (k = 5 ∨ k = 6))) : yaH σ O S q f s t o k = σ o k := by
  unfold yaH
  rw [up_v, if_neg (by omega), up_v, if_neg (by omega), up_v, if_neg (by omega), up_v, if_neg (by omega), up_v, if_neg (by omega), up_v, if_neg (by omega), up_v, if_neg (by omega)]
theorem yaH_5 : yaH σ O S q f s t 36 5 = (O + 1 : Nat) := by unfold yaH; rw [up_k (by omega), up_e]
theorem yaH_6 : yaH σ O S q f s t 36 6 = (S : Nat) := by unfold yaH; rw [up_e]
theorem yaH_o : yaH σ O S q f s t 37 O = q := by unfold yaH; rw [up_o (by omega), up_o (by omega), up_o (by omega), up_o (by omega), up_o (by omega), up_o (by omega), up_e]
theorem yaH_a : yaH σ O S q f s t 38 O = f := by unfold yaH; rw [up_o (by omega), up_o (by omega), up_o (by omega), up_o (by omega), up_o (by omega), up_e]
theorem yaH_s : yaH σ O S q f s t 39 O = s := by unfold yaH; rw [up_o (by omega), up_o (by omega), up_o (by omega), up_o (by omega), up_e]
theorem yaH_t : yaH σ O S q f s t 40 O = t := by unfold yaH; rw [up_o (by omega), up_o (by omega), up_o (by omega), up_e]
theorem yaH_m : yaH σ O S q f s t 41 O = -1 := by unfold yaH; rw [up_o (by omega), up_o (by omega), up_e]
end
/-! steps and orders: how they are put together -/
section
variable {o f s t m c o' f' s' t' m' c' : Nat → Int} {W N : Nat}
theorem PLN.cg {a x : Nat} (h : PLN o f s t c W N a x) (h1 : o' x = o x) (h2 : f' x = f x) (h3 : s' x = s x) (h4 : t' x = t x) (hc : ∀ k, 9 * a ≤ k → k < 9 * a + 8 → c' k = c k) : PLN o' f' s' t' c' W N a x := by
  unfold PLN at h ⊢
  rw [h1, h2, h3, h4, hc (9 * a) (by omega) (by omega), hc (9 * a + 1) (by omega) (by omega), hc (9 * a + 2) (by omega) (by omega), hc (9 * a + 3) (by omega) (by omega)]
  exact h
theorem OPN.cg {a x : Nat} (h : OPN o f s t c W N a x) (h1 : o' x = o x) (h2 : f' x = f x) (h3 : s' x = s x) (h4 : t' x = t x) (hc : ∀ k, 9 * a ≤ k → k < 9 * a + 8 → c' k = c k) : OPN o' f' s' t' c' W N a x := by
  unfold OPN at h ⊢
  rw [h1, h2, h3, h4, hc (9 * a) (by omega) (by omega), hc (9 * a + 1) (by omega) (by omega), hc (9 * a + 2) (by omega) (by omega), hc (9 * a + 6) (by omega) (by omega), hc (9 * a + 7) (by omega) (by omega)]
  exact h
theorem BLK.mono : ∀ {n n' d a b x y : Nat}, n ≤ n' → BLK o f s t m c W N n d a b x y → BLK o f s t m c W N n' d a b x y
  | 0, _, _, _, _, _, _, _, h => absurd h (by rw [BLK]; exact fun z => z)
  | n + 1, 0, _, _, _, _, _, hn, _ => absurd hn (by omega)
  | n + 1, n' + 1, d, a, b, x, y, hn, h => by
    rw [BLK] at h ⊢
    rcases h with h | ⟨h1, h2, h3, h4, h5⟩ | ⟨q, e, h1, h2, h3, h4, h5, h6, h7, h8, h9, h10, h11, h12⟩
    · exact .inl h
    · exact .inr (.inl ⟨h1, h2, h3, h4, BLK.mono (by omega) h5⟩)
    · exact .inr (.inr ⟨q, e, h1, h2, h3, h4, h5, h6, h7, h8, h9, h10, BLK.mono (by omega) h11, BLK.mono (by omega) h12⟩)
theorem BLK.cg : ∀ {n d a b x y : Nat}, (∀ i, x ≤ i → i < y → o' i = o i ∧ f' i = f i ∧ s' i = s i ∧ t' i = t i ∧ m' i = m i) → (∀ k, 9 * a ≤ k → k < 9 * b → c' k = c k) → BLK o f s t m c W N n d a b x y → BLK o' f' s' t' m' c' W N n d a b x y
  | 0, _, _, _, _, _, _, _, h => absurd h (by rw [BLK]; exact fun z => z)
  | n + 1, d, a, b, x, y, hi, hc, h => by
    rw [BLK] at h ⊢
    rcases h with h | ⟨h1, h2, h3, h4, h5⟩ | ⟨q, e, h1, h2, h3, h4, h5, h6, h7, h8, h9, h10, h11, h12⟩
    · exact .inl h
    · obtain ⟨i1, i2, i3, i4, i5⟩ := hi x (by omega) (by omega)
      refine .inr (.inl ⟨h1, h2, h3.cg i1 i2 i3 i4 (fun k z1 z2 => hc k z1 (by omega)), by rw [hc _ (by omega) (by omega)]; exact h4, BLK.cg (fun i z1 z2 => hi i (by omega) z2) (fun k z1 z2 => hc k (by omega) z2) h5⟩)
    · obtain ⟨i1, i2, i3, i4, i5⟩ := hi x (by omega) (by omega)
      obtain ⟨j1, j2, j3, j4, j5⟩ := hi e (by omega) (by omega)
      refine .inr (.inr ⟨q, e, h1, h2, h3, h4, h5, h6.cg i1 i2 i3 i4 (fun k z1 z2 => hc k z1 (by omega)), by rw [hc _ (by omega) (by omega)]; exact h7, by rw [i5]; exact h8, by rw [j1]; exact h9, by rw [j5]; exact h10, BLK.cg (fun i z1 z2 => hi i (by omega) (by omega)) (fun k z1 z2 => hc k (by omega) (by omega)) h11, BLK.cg (fun i z1 z2 => hi i (by omega) z2) (fun k z1 z2 => hc k (by omega) z2) h12⟩)
/-- one step of the reference and its orders -/
def STP (o f s t m c : Nat → Int) (W N d a b x y : Nat) : Prop := (b = a + 1 ∧ y = x + 1 ∧ PLN o f s t c W N a x ∧ c (9 * a + 8) = (a + 1 : Nat)) ∨
  (∃ e, y = e + 1 ∧ 0 < d ∧ a < b ∧ x < e ∧ OPN o f s t c W N a x ∧ c (9 * a + 8) = (b : Nat) ∧ m x = (e : Nat) ∧ o e = 23 ∧ m e = (x : Nat) ∧ BLK o f s t m c W N (b - a) (d - 1) (a + 1) b (x + 1) e)
theorem STP.ab {d a b x y : Nat} (h : STP o f s t m c W N d a b x y) : a < b ∧ x < y := by
  rcases h with ⟨h1, h2, _⟩ | ⟨e, h1, h2, h3, h4, _⟩ <;> omega
theorem STP.cg {d a b x y : Nat} (h : STP o f s t m c W N d a b x y) (hi : ∀ i, x ≤ i → i < y → o' i = o i ∧ f' i = f i ∧ s' i = s i ∧ t' i = t i ∧ m' i = m i) (hc : ∀ k, 9 * a ≤ k → k < 9 * b → c' k = c k) : STP o' f' s' t' m' c' W N d a b x y := by
  rcases h with ⟨h1, h2, h3, h4⟩ | ⟨e, h1, h2, h3, h4, h5, h6, h7, h8, h9, h10⟩
  · obtain ⟨i1, i2, i3, i4, i5⟩ := hi x (by omega) (by omega)
    exact .inl ⟨h1, h2, h3.cg i1 i2 i3 i4 (fun k z1 z2 => hc k z1 (by omega)), by rw [hc _ (by omega) (by omega)]; exact h4⟩
  · obtain ⟨i1, i2, i3, i4, i5⟩ := hi x (by omega) (by omega)
    obtain ⟨j1, j2, j3, j4, j5⟩ := hi e (by omega) (by omega)
    exact .inr ⟨e, h1, h2, h3, h4, h5.cg i1 i2 i3 i4 (fun k z1 z2 => hc k z1 (by omega)), by rw [hc _ (by omega) (by omega)]; exact h6, by rw [i5]; exact h7, by rw [j1]; exact h8, by rw [j5]; exact h9, BLK.cg (fun i z1 z2 => hi i (by omega) (by omega)) (fun k z1 z2 => hc k (by omega) z2) h10⟩
theorem STP.cons {d a b x y a' x' : Nat} (h : STP o f s t m c W N d a b x y) (g : BLK o f s t m c W N (a' - b + 1) d b a' y x') (h1 : b ≤ a') (h2 : y ≤ x') : BLK o f s t m c W N (a' - a + 1) d a a' x x' := by
  have hab := h.ab
  rw [BLK]
  rcases h with ⟨e1, e2, e3, e4⟩ | ⟨e, e1, e2, e3, e4, e5, e6, e7, e8, e9, e10⟩
  · subst e1; subst e2
    exact .inr (.inl ⟨by omega, by omega, e3, e4, g.mono (by omega)⟩)
  · subst e1
    exact .inr (.inr ⟨b, e, e2, e3, h1, e4, by omega, e5, e6, e7, e8, e9, e10.mono (by omega), g.mono (by omega)⟩)
end
