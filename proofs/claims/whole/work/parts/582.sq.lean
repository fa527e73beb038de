/-! a step, a sequence of steps: what is asked of them -/
def L6 (f : Nat) (i : Int) (σ : Sg) : Rs := YR_readAll_L6 8 36 (fun s8 => YR_readAll_J37 36 s8) f i σ
def YQ (w S O : Nat) (σ τ : Sg) : Prop := σ 36 5 = (O : Nat) ∧ σ 36 6 = (S : Nat) ∧ τ 0 26 = (S : Nat) ∧ S ≤ 30 ∧ O + w ≤ 2 * S ∧ obs σ O = w
def BQ (W N : Nat) (σ τ : Sg) (n d a b x y : Nat) : Prop := BLK (σ 37) (σ 38) (σ 39) (σ 40) (σ 41) (fun k => τ 5 (1965 + k)) W N n d a b x y
def STQ (W N : Nat) (σ τ : Sg) (d a b x y : Nat) : Prop := STP (σ 37) (σ 38) (σ 39) (σ 40) (σ 41) (fun k => τ 5 (1965 + k)) W N d a b x y
theorem FYH.w {O : Nat} {a b : Sg} (h : FYH O a b) : FYH 0 a b := fun o k q1 q2 q3 => h o k q1 q2 (by omega)
theorem FYM.w {S : Nat} {a b : Sg} (h : FYM S a b) : FYM 0 a b := fun o k q1 q2 => h o k q1 (by omega)
theorem FYH.ob {O : Nat} {a b : Sg} (h : FYH O a b) {i : Nat} (hi : i < O) : ob b i = ob a i := ob_c (h _ _ (by omega) (by omega) (by omega)) (h _ _ (by omega) (by omega) (by omega))
theorem FYH.obs {O x : Nat} {a b : Sg} (h : FYH O a b) (hx : x ≤ O) : obs b x = obs a x := obs_c (fun i hi => h.ob (by omega))
theorem obs_m {σ : Sg} {x : Nat} : ∀ {y : Nat}, x ≤ y → obs σ x ≤ obs σ y
  | 0, h => by rw [show x = 0 by omega]; exact Nat.le_refl _
  | y + 1, h => by
    rcases Nat.lt_or_ge y x with z | z
    · rw [show x = y + 1 by omega]; exact Nat.le_refl _
    · have := obs_m (σ := σ) z
      rw [obs.eq_2]; omega
theorem obs_0 {σ : Sg} {x y i : Nat} (h : obs σ y = obs σ x) (h1 : x ≤ i) (h2 : i < y) : ob σ i = 0 := by
  have a1 := obs_m (σ := σ) h1
  have a2 := obs_m (σ := σ) (show i + 1 ≤ y by omega)
  rw [obs.eq_2] at a2; omega
theorem YQ.t {w S O : Nat} {σ τ σ' τ' : Sg} (h : YQ w S O σ τ) (hs : T5 σ σ') (ht : T0 τ τ') : YQ w S O σ' τ' := by
  obtain ⟨a1, a2, a3, a4, a5, a6⟩ := h
  exact ⟨by rw [hs.e (by omega)]; exact a1, by rw [hs.e (by omega)]; exact a2, by rw [ht.e0 (by omega)]; exact a3, a4, a5, by rw [obs_c (fun i _ => ob_c (hs.e (by omega)) (hs.e (by omega)))]; exact a6⟩
theorem opn_o {o f s t c : Nat → Int} {W N a x : Nat} (h : OPN o f s t c W N a x) : o x = 20 ∨ o x = 21 ∨ o x = 22 := by
  unfold OPN at h; omega
def SOUT (n R : Nat) (B : Nat → Int) (b : Nat → Nat) (W N w S O j f i : Nat) (Y : Rs) (σ τ : Sg) : Prop :=
  (∃ (σ' τ' : Sg) (S' O' f' i' j' k' v' p' : Nat), L6 f i σ = L6 f' i' σ' ∧ Y = some (0, τ') ∧ f' + i' = 100000 ∧ i' ≤ j' ∧ j < j' ∧ CU n R B b j' k' v' p' σ' τ' ∧ YQ w S' O' σ' τ' ∧ STQ W N σ' τ' (3 - w) S S' O O' ∧ FYH O σ σ' ∧ FYM S τ τ') ∨
  (∃ (σ' τ' : Sg) (x : Int), L6 f i σ = some (0, σ') ∧ Y = some (x, τ') ∧ FLT σ' τ' ∧ FYH 0 σ σ' ∧ FYM 0 τ τ')
def QOUT (n R : Nat) (B : Nat → Int) (b : Nat → Nat) (W N w S O j f i : Nat) (Y : Rs) (K : Sg → Rs) (σ τ : Sg) : Prop :=
  (∃ (σ' τ' : Sg) (S' O' f' i' j' p' : Nat), L6 f i σ = L6 f' i' σ' ∧ Y = K τ' ∧ f' + i' = 100000 ∧ i' ≤ j' ∧ j ≤ j' ∧ CU n R B b j' 2 23 p' σ' τ' ∧ YQ w S' O' σ' τ' ∧ BQ W N σ' τ' (S' - S + 1) (3 - w) S S' O O' ∧ S ≤ S' ∧ O ≤ O' ∧ FYH O σ σ' ∧ FYM S τ τ') ∨
  (∃ σ' τ', L6 f i σ = some (0, σ') ∧ Y = K τ' ∧ FLT σ' τ' ∧ FYH 0 σ σ' ∧ FYM 0 τ τ')
def STEPP (n R : Nat) (B : Nat → Int) (b : Nat → Nat) (W N m : Nat) : Prop := ∀ (w nn j f i k v p S O : Nat) (σ τ : Sg), w ≤ 3 → 4 ≤ nn + w → R ≤ j + m → f + i = 100000 → i ≤ j → CU n R B b j k v p σ τ → NB 8 0 σ τ W N → YQ w S O σ τ → (k = 0 → 1 ≤ w) → ¬ (k = 2 ∧ v = 23 ∧ 1 ≤ w) →
  SOUT n R B b W N w S O j f i (M_readStep nn (w : Nat) τ) σ τ
def SEQP (n R : Nat) (B : Nat → Int) (b : Nat → Nat) (W N m : Nat) : Prop := ∀ (u nn j f i g k v p S O : Nat) (σ τ : Sg) (v3 v4 : Int) (K : Int → Int → Sg → Rs), u ≤ 2 → 4 ≤ nn + (u + 1) → R ≤ j + m → m + 1 < g → f + i = 100000 → i ≤ j → CU n R B b j k v p σ τ → NB 8 0 σ τ W N → YQ (u + 1) S O σ τ → v3 ≠ 0 →
  QOUT n R B b W N (u + 1) S O j f i (M_readStep_L141 (M_readStep nn) (u : Nat) v3 v4 K g τ) (K v3 v4) σ τ
section
variable {n R : Nat} {B : Nat → Int} {b : Nat → Nat} {W N : Nat}
theorem l141_b {τ : Sg} (h : 0 < τ 0 12) (rc : Int → Sg → Rs) (a1 v3 v4 : Int) (K : Int → Int → Sg → Rs) (g : Nat) : M_readStep_L141 rc a1 v3 v4 K (g + 1) τ = K v3 v4 τ := by
  rw [M_readStep_L141]; split
  · rfl
  · rw [if_neg (by omega)]
theorem STQ.cg {d a b' x y : Nat} {σ τ σ' τ' : Sg} {O S : Nat} (h : STQ W N σ τ d a b' x y) (hs : FYH O σ σ') (ht : FYM S τ τ') (hO : y ≤ O) (hS : b' ≤ S) : STQ W N σ' τ' d a b' x y :=
  STP.cg h (fun i _ z => ⟨hs _ _ (by omega) (by omega) (by omega), hs _ _ (by omega) (by omega) (by omega), hs _ _ (by omega) (by omega) (by omega), hs _ _ (by omega) (by omega) (by omega), hs _ _ (by omega) (by omega) (by omega)⟩) (fun k _ z => ht _ _ (by omega) (by omega))
theorem seq_of {m : Nat} (hS : STEPP n R B b W N (m + 1)) (hQ : SEQP n R B b W N m) : SEQP n R B b W N (m + 1) := by
  intro u nn j f i g k v p S O σ τ v3 v4 K hu hn hm hg hf hi h hN hy h3
  obtain ⟨g, rfl⟩ : ∃ x, g = x + 1 + 1 := ⟨g - 2, by omega⟩
  by_cases c : k = 2 ∧ v = 23
  · obtain ⟨rfl, rfl⟩ := c
    refine .inl ⟨σ, τ, S, O, f, i, j, p, rfl, ?_, hf, hi, Nat.le_refl j, h, hy, ?_, Nat.le_refl S, Nat.le_refl O, FYH.rf, FYM.rf⟩
    · rw [M_readStep_L141, if_neg h3, if_pos h.ok, is_end h.td, bd_s, if_pos (show (2 : Nat) = 2 ∧ (23 : Nat) = 23 from ⟨rfl, rfl⟩), if_neg i10]
    · unfold BQ; rw [BLK]; exact .inl ⟨rfl, rfl⟩
  · have e2 : M_readStep_L141 (M_readStep nn) (u : Nat) v3 v4 K (g + 1 + 1) τ = bd (M_readStep nn ((u + 1 : Nat) : Int) τ) (fun r20 s21 => M_readStep_L141 (M_readStep nn) (u : Nat) v3 v4 K (g + 1) s21) := by
      rw [M_readStep_L141, if_neg h3, if_pos h.ok, is_end h.td, bd_s, if_neg c, if_pos rfl, w32_i (by omega) (by omega), suc]
    rw [e2]
    rcases hS (u + 1) nn j f i k v p S O σ τ (by omega) hn hm hf hi h hN hy (fun _ => by omega) (fun z => c ⟨z.1, z.2.1⟩) with ⟨σ1, τ1, S1, O1, f1, i1, j1, k1, v1, p1, a1, a2, a3, a4, a5, a6, a7, a8, a9, a10⟩ | ⟨σ1, τ1, x, a1, a2, a3, a4, a5⟩
    · have hab := STP.ab a8
      rw [a2, bd_s]
      rcases hQ u nn j1 f1 i1 (g + 1) k1 v1 p1 S1 O1 σ1 τ1 v3 v4 K hu hn (by omega) (by omega) a3 a4 a6 (hN.y a9 a10) a7 h3 with ⟨σ2, τ2, S2, O2, f2, i2, j2, p2, b1, b2, b3, b4, b5, b6, b7, b8, b9, b10, b11, b12⟩ | ⟨σ2, τ2, b1, b2, b3, b4, b5⟩
      · exact .inl ⟨σ2, τ2, S2, O2, f2, i2, j2, p2, a1.trans b1, b2, b3, b4, by omega, b6, b7, STP.cons (a8.cg b11 b12 (Nat.le_refl _) (Nat.le_refl _)) b8 b9 b10, by omega, by omega, a9.tr b11 (by omega), a10.tr b12 (by omega)⟩
      · exact .inr ⟨σ2, τ2, a1.trans b1, b2, b3, a9.w.tr b4 (Nat.le_refl 0), a10.w.tr b5 (Nat.le_refl 0)⟩
    · rw [a2, bd_s, l141_b a3.b]
      exact .inr ⟨σ1, τ1, a1, rfl, a3, a4, a5⟩
/-! the end of a block, the heads of steps -/
theorem rend_h {σ : Sg} {O S x : Nat} (h5 : σ 36 5 = (O : Nat)) (h6 : σ 36 6 = (S : Nat)) (hO : O < 60) (hS : S ≤ 30) (hl : Ye_latestOpen 36 σ = some ((x : Int), σ)) (hx : x < O) :
    ∃ σ', YR_readEnd 36 σ = bd (To_takeClosing σ') (fun r7 s8 => zb r7 (some (r7, s8))) ∧ σ' 36 5 = (O + 1 : Nat) ∧ σ' 36 6 = (S : Nat) ∧ σ' 37 O = 23 ∧ σ' 41 O = (x : Nat) ∧ σ' 41 x = (O : Nat) ∧ (∀ o k, ¬ (o = 36 ∧ (k = 5 ∨ k = 6)) → ¬ (37 ≤ o ∧ o ≤ 41 ∧ k = O) → ¬ (o = 41 ∧ k = x) → σ' o k = σ o k) := by
  have e1 : Ye_add 36 23 0 0 0 σ = some (1, yaH σ O S 23 0 0 0) := by rw [ya_h h5 h6 hO hS, if_pos rfl]
  have i1 : ∀ z : Nat, z < O + 1 → z < 60 → Ye_isOrder 36 z (yaH σ O S 23 0 0 0) = some (1, yaH σ O S 23 0 0 0) := fun z h1 h2 => by
    rw [Ye_isOrder, yaH_5, if_neg (by omega), if_pos (by omega), if_pos (by omega)]
  refine ⟨up_s (up_s (yaH σ O S 23 0 0 0) 41 x (O : Nat)) 41 O (x : Nat), ?_, ?_, ?_, ?_, up_e, ?_, fun o k q1 q2 q3 => ?_⟩
  · rw [YR_readEnd, hl, bd_s, e1, bd_s, yaH_5, w_p (x := ((O + 1 : Nat) : Int) - 1) (n := O) (by omega) (by omega), Ye_join, i1 x (by omega) (by omega), bd_s, if_neg i10, i1 O (by omega) hO, bd_s, if_neg i10, wr_k (by omega) (by omega), Int.toNat_natCast, wr_k (by omega) (by omega), Int.toNat_natCast, bd_s]
  · rw [up_o (by omega), up_o (by omega)]; exact yaH_5
  · rw [up_o (by omega), up_o (by omega)]; exact yaH_6
  · rw [up_o (by omega), up_o (by omega)]; exact yaH_o
  · rw [up_k (by omega), up_e]
  · rw [up_v, if_neg (by omega), up_v, if_neg (by omega)]; exact yaH_f (by omega)
theorem l6_step {j k v p f i : Nat} {σ τ : Sg} (h : CU n R B b j k v p σ τ) (hR : R ≤ 301) (hk : k ≠ 0) (hi : i ≤ j) : L6 (f + 1) i σ = bd (YR_readStep 8 36 σ) (fun r5 s6 => if r5 = 0 then some (0, s6) else L6 f ((i + 1 : Nat) : Int) s6) := by
  have hj := h.jR
  have he := h.ed
  unfold L6
  rw [YR_readAll_L6, if_pos (by omega), isEnd_h h, bd_s, if_neg hk, if_pos rfl]
  refine bd_c (fun r s => ?_)
  rw [nm_k, w32_i (by omega) (by omega), suc]
theorem l6_end {j v p f i : Nat} {σ τ : Sg} (h : CU n R B b j 0 v p σ τ) : L6 (f + 1) i σ = YR_readAll_J37 36 σ := by
  unfold L6
  rw [YR_readAll_L6]
  by_cases z : ((i : Nat) : Int) < 300
  · rw [if_pos z, isEnd_h h, bd_s, if_pos rfl, if_neg i10]
  · rw [if_neg z]
/-- the head of a step that can stand there -/
theorem hd_v {j v p w : Nat} {σ τ : Sg} (h : CU n R B b j 2 v p σ τ) {κ : Int} (hκ : KQ v κ) (rc : Int → Sg → Rs) :
    ∃ e : Int, ((e = 1 ∧ OPV v) ∨ (e = 0 ∧ ¬ OPV v)) ∧ M_readStep_B rc (w : Nat) τ = M_readStep_J30 rc (w : Nat) κ e τ ∧ YR_readStep 8 36 σ = YR_readStep_J64 8 36 (v : Nat) e σ := by
  have eM : M_readStep_B rc (w : Nat) τ = (if κ = 5 ∨ κ = 6 then M_readStep_J30 rc (w : Nat) κ 1 τ else M_readStep_J30 rc (w : Nat) κ 0 τ) := by
    have hs : stp 2 v = κ := by
      unfold stp
      rcases hκ with ⟨rfl, rfl⟩ | ⟨rfl, rfl⟩ | ⟨rfl, rfl⟩ | ⟨rfl, rfl⟩ | ⟨rfl, rfl⟩ | ⟨rfl, rfl⟩ | ⟨rfl, rfl⟩ | ⟨rfl, rfl⟩ <;> decide
    have h0 : ¬ κ < 0 := by unfold KQ at hκ; omega
    rw [M_readStep_B, stp_m h.td, bd_s, hs]
    by_cases c5 : κ = 5
    · rw [if_pos c5, if_pos (.inl c5), M_readStep_J16, M_readStep_J21, if_neg h0]
    · rw [if_neg c5]
      by_cases c6 : κ = 6
      · rw [if_pos c6, if_pos (.inr c6), M_readStep_J16, M_readStep_J21, if_neg h0]
      · rw [if_neg c6, if_neg (by omega), M_readStep_J21, if_neg h0]
  by_cases co : OPV v
  · have hv : v = 19 ∨ v = 22 := co
    refine ⟨1, .inl ⟨rfl, co⟩, ?_, ?_⟩
    · rw [eM, if_pos (by unfold KQ at hκ; omega)]
    · rw [YR_readStep, h.kn, bd_s, if_pos rfl]
      rcases hv with rfl | rfl
      · rw [if_pos (by omega), YR_readStep_J17, YR_readStep_J22, if_neg (by omega), YR_readStep_J47, if_neg i10]
      · rw [if_neg (by omega), if_pos (by omega), YR_readStep_J17, YR_readStep_J22, if_neg (by omega), YR_readStep_J47, if_neg i10]
  · have hv : ¬ (v = 19 ∨ v = 22) := co
    refine ⟨0, .inr ⟨rfl, co⟩, ?_, ?_⟩
    · rw [eM, if_neg (by unfold KQ at hκ; omega)]
    · have hp : YR_isPlain (v : Nat) σ = some (1, σ) := by
        rw [YR_isPlain]
        unfold KQ at hκ
        by_cases q1 : ((v : Nat) : Int) = 12
        · rw [if_pos q1]
        · rw [if_neg q1]
          by_cases q2 : ((v : Nat) : Int) = 13
          · rw [if_pos q2]
          · rw [if_neg q2]
            by_cases q3 : ((v : Nat) : Int) = 14
            · rw [if_pos q3]
            · rw [if_neg q3]
              by_cases q4 : ((v : Nat) : Int) = 16
              · rw [if_pos q4]
              · rw [if_neg q4]
                by_cases q5 : ((v : Nat) : Int) = 18
                · rw [if_pos q5]
                · rw [if_neg q5, if_pos (by omega)]
      rw [YR_readStep, h.kn, bd_s, if_pos rfl, if_neg (by omega), if_neg (by omega), YR_readStep_J22, if_neg (by unfold KQ at hκ; omega), YR_readStep_J47, if_pos rfl, hp, bd_s, if_neg i10]
/-- the head of what can't stand there -/
theorem hd_m {j k v p w S O : Nat} {σ τ : Sg} (h : CU n R B b j k v p σ τ) (hy : YQ w S O σ τ) (hn : ¬ (k = 2 ∧ ∃ κ, KQ v κ)) (h23 : ¬ (k = 2 ∧ v = 23 ∧ 1 ≤ w)) (rc : Int → Sg → Rs) :
    YR_readStep 8 36 σ = bd (To_misfit σ) (fun r11 s12 => zb r11 (some (r11, s12))) ∧ M_readStep_B rc (w : Nat) τ = bd (M_amiss τ) (fun r3 s4 => M_readStep_J30 rc (w : Nat) (-1) 0 s4) := by
  have hv : ¬ (k = 2 ∧ (v = 12 ∨ v = 13 ∨ v = 14 ∨ v = 16 ∨ v = 18 ∨ v = 24 ∨ v = 19 ∨ v = 22)) := by
    intro ⟨z1, z2⟩
    refine hn ⟨z1, ?_⟩
    unfold KQ
    rcases z2 with z | z | z | z | z | z | z | z
    · exact ⟨0, by omega⟩
    · exact ⟨1, by omega⟩
    · exact ⟨2, by omega⟩
    · exact ⟨3, by omega⟩
    · exact ⟨4, by omega⟩
    · exact ⟨7, by omega⟩
    · exact ⟨5, by omega⟩
    · exact ⟨6, by omega⟩
  obtain ⟨y1, y2, y3, y4, y5, y6⟩ := hy
  constructor
  · have key : ∀ x : Int, x ≠ 12 → x ≠ 13 → x ≠ 14 → x ≠ 16 → x ≠ 18 → x ≠ 24 → YR_readStep_J47 8 36 x 0 σ = bd (To_misfit σ) (fun r11 s12 => zb r11 (some (r11, s12))) := fun x q1 q2 q3 q4 q5 q6 => by
      rw [YR_readStep_J47, if_pos rfl, YR_isPlain, if_neg q1, if_neg q2, if_neg q3, if_neg q4, if_neg q5, if_neg q6, bd_s, if_pos rfl]
    rw [YR_readStep, h.kn, bd_s]
    by_cases ck : k = 2
    · rw [if_pos ck, if_neg (by omega), if_neg (by omega), YR_readStep_J22]
      by_cases c23 : ((v : Nat) : Int) = 23
      · rw [if_pos c23, depth_h y1 (by omega), bd_s, if_neg (by omega)]
        exact key _ (by omega) (by omega) (by omega) (by omega) (by omega) (by omega)
      · rw [if_neg c23]
        exact key _ (by omega) (by omega) (by omega) (by omega) (by omega) (by omega)
    · rw [if_neg ck, if_neg (by omega), if_neg (by omega), YR_readStep_J22, if_neg (by omega)]
      exact key _ (by omega) (by omega) (by omega) (by omega) (by omega) (by omega)
  · have hs : stp k v = -1 := by
      unfold stp
      rw [if_neg (by omega), if_neg (by omega), if_neg (by omega), if_neg (by omega), if_neg (by omega), if_neg (by omega), if_neg (by omega), if_neg (by omega)]
    rw [M_readStep_B, stp_m h.td, bd_s, hs, if_neg (by omega), if_neg (by omega), M_readStep_J21, if_pos (by omega)]
theorem j30_b {τ : Sg} (h : 0 < τ 0 12) (rc : Int → Sg → Rs) (a x y : Int) : M_readStep_J30 rc a x y τ = some (0, τ) := by
  rw [M_readStep_J30, if_neg (by omega), M_readStep_J56, if_neg (by omega), M_readStep_J82, if_pos h]
theorem j169_b {τ : Sg} (h : 0 < τ 0 12) (rc : Int → Sg → Rs) (e : Int) {a : Nat} (ha : a + 8 < 2235) : M_readStep_J169 rc e (a : Nat) τ = some (0, up_s τ 5 (a + 8) (τ 0 26)) := by
  rw [M_readStep_J169, e_8 ha]; split
  · rw [w5 ha (by omega)]
  · obtain ⟨r, hr⟩ := end_t τ
    obtain ⟨q, hq⟩ := sign_t 59 τ
    rw [hr, bd_s, must_b h, bd_s, hq, bd_s, must_b h, bd_s, w5 ha (by omega)]
end
