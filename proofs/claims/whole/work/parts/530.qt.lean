/-! games: heads of the class against people of the reference -/
def HD (σ τ : Sg) (e i : Nat) : Prop := (σ 109 e = τ 5 (37 + i)) ∧ (σ 110 e = τ 5 (43 + i)) ∧ (∀ k, k < 8 → σ 111 (8 * e + k) = τ 5 (49 + (8 * i + k))) ∧ (∀ k, k < 8 → σ 112 (8 * e + k) = τ 5 (97 + (8 * i + k)))
theorem HD.mk {σ τ : Sg} {e i : Nat} (hkn : σ 109 e = τ 5 (37 + i)) (hkp : σ 110 e = τ 5 (43 + i)) (hln : ∀ k, k < 8 → σ 111 (8 * e + k) = τ 5 (49 + (8 * i + k))) (hag : ∀ k, k < 8 → σ 112 (8 * e + k) = τ 5 (97 + (8 * i + k))) : HD σ τ e i := ⟨hkn, hkp, hln, hag⟩
theorem HD.kn {σ τ : Sg} {e i : Nat} (h : HD σ τ e i) : σ 109 e = τ 5 (37 + i) := h.1
theorem HD.kp {σ τ : Sg} {e i : Nat} (h : HD σ τ e i) : σ 110 e = τ 5 (43 + i) := h.2.1
theorem HD.ln {σ τ : Sg} {e i : Nat} (h : HD σ τ e i) : ∀ k, k < 8 → σ 111 (8 * e + k) = τ 5 (49 + (8 * i + k)) := h.2.2.1
theorem HD.ag {σ τ : Sg} {e i : Nat} (h : HD σ τ e i) : ∀ k, k < 8 → σ 112 (8 * e + k) = τ 5 (97 + (8 * i + k)) := h.2.2.2
def SWH (σ τ : Sg) (W : Nat) : Prop := (σ 8 10 = W) ∧ (∀ k, k < W → σ 10 k = τ 5 (9 + k)) ∧ (∀ k, k < W → σ 11 k = τ 5 (17 + k))
theorem SWH.mk {σ τ : Sg} {W : Nat} (hw : σ 8 10 = W) (hgr : ∀ k, k < W → σ 10 k = τ 5 (9 + k)) (hgy : ∀ k, k < W → σ 11 k = τ 5 (17 + k)) : SWH σ τ W := ⟨hw, hgr, hgy⟩
theorem SWH.w {σ τ : Sg} {W : Nat} (h : SWH σ τ W) : σ 8 10 = W := h.1
theorem SWH.gr {σ τ : Sg} {W : Nat} (h : SWH σ τ W) : ∀ k, k < W → σ 10 k = τ 5 (9 + k) := h.2.1
theorem SWH.gy {σ τ : Sg} {W : Nat} (h : SWH σ τ W) : ∀ k, k < W → σ 11 k = τ 5 (17 + k) := h.2.2
/-- outside of one head -/
def HO (h o k : Nat) : Prop := (o ≠ 109 ∧ o ≠ 110 ∧ o ≠ 111 ∧ o ≠ 112) ∨ ((o = 109 ∨ o = 110) ∧ k ≠ h) ∨ ((o = 111 ∨ o = 112) ∧ (k < 8 * h ∨ 8 * h + 8 ≤ k))
section
variable {σ τ σ' τ' ρ : Sg} {W N D E : Nat}
theorem HD.cg {h i : Nat} (q : HD σ τ h i) (hs : ∀ o k, ¬ HO h o k → σ' o k = σ o k) (ht : ∀ k, (k = 37 + i ∨ k = 43 + i ∨ (49 + 8 * i ≤ k ∧ k < 57 + 8 * i) ∨ (97 + 8 * i ≤ k ∧ k < 105 + 8 * i)) → τ' 5 k = τ 5 k) : HD σ' τ' h i := by
  unfold HO at hs
  refine HD.mk ?_ ?_ (fun k hk => ?_) (fun k hk => ?_)
  · rw [hs _ _ (by omega), ht _ (by omega)]; exact q.kn
  · rw [hs _ _ (by omega), ht _ (by omega)]; exact q.kp
  · rw [hs _ _ (by omega), ht _ (by omega)]; exact q.ln k hk
  · rw [hs _ _ (by omega), ht _ (by omega)]; exact q.ag k hk
theorem HD.fs {h h' i : Nat} (hh : h ≠ h') (q : HD σ τ h i) (hs : ∀ o k, HO h' o k → σ' o k = σ o k) : HD σ' τ h i :=
  q.cg (fun o k z => hs o k (by unfold HO at z ⊢; omega)) (fun _ _ => rfl)
theorem SWH.fs (q : SWH σ τ W) (hs : ∀ o k, o < 108 → σ' o k = σ o k) (ht : ∀ k, k < 37 → τ' 5 k = τ 5 k) (bW : W ≤ 8) : SWH σ' τ' W :=
  SWH.mk (by rw [hs _ _ (by omega)]; exact q.w) (fun k hk => by rw [hs _ _ (by omega), ht _ (by omega)]; exact q.gr k hk) (fun k hk => by rw [hs _ _ (by omega), ht _ (by omega)]; exact q.gy k hk)
theorem hx8 {h k : Nat} (hh : h < 8) (hk : k < 8) : w32 (w32 ((h : Int) * 8) + k) = ((8 * h + k : Nat) : Int) := by
  rw [w32_i (x := (h : Int) * 8) (by omega) (by omega), w32_i (by omega) (by omega)]; omega
theorem ha_h (s : SWH σ τ W) (bW : W ≤ 8) {h i : Nat} (hh : h < 8) (q : HD σ τ h i) : Du_hairAt 8 h σ = some (hairS (τ 5) i W, σ) := by
  rw [Du_hairAt]
  refine loopN (X := fun n k => Du_hairAt_L5 8 h n (hairS (τ 5) i k) k σ) (W := W) ?_ ?_ fu (by unfold fu; omega)
  · intro k n hk
    show Du_hairAt_L5 8 h (n + 1) _ k σ = _
    rw [Du_hairAt_L5, s.w, if_pos (by omega), if_pos (by omega), rd_k (by omega) (by omega), Int.toNat_natCast, q.kp, hx8 hh (by omega), rd_k (by omega) (by omega), Int.toNat_natCast, q.ln k (by omega), hairS]
    simp only [nm_k]
    rw [w32_i (x := (k : Int) + 1) (by omega) (by omega), suc]
    by_cases e : an32 (sr32 (τ 5 (43 + i)) k) 1 = 1
    · rw [if_pos e, if_pos e]
    · rw [if_neg e, if_neg e]
  · intro n
    show Du_hairAt_L5 8 h (n + 1) _ W σ = _
    rw [Du_hairAt_L5, s.w, if_neg (by omega)]
theorem h8 {h : Nat} (hh : h < 8) : w32 ((h : Int) * 8) = ((8 * h : Nat) : Int) := by rw [w32_i (by omega) (by omega)]; omega
/-- a head copied -/
theorem ch_h {a b : Nat} (ha : a < 8) (hb : b < 8) (hab : a ≠ b) : ∃ σ', Du_copyHead a b σ = some (0, σ') ∧ (∀ o k, HO b o k → σ' o k = σ o k) ∧ ∀ (τ : Sg) (i : Nat), HD σ τ a i → HD σ' τ b i := by
  refine ⟨cp_s (cp_s (up_s (up_s σ 109 b (σ 109 a)) 110 b (σ 110 a)) 111 111 (8 * a) (8 * b) 8) 112 112 (8 * a) (8 * b) 8, ?_, fun o k z => ?_, fun τ i q => ?_⟩
  · rw [Du_copyHead, rd_k (by omega) (by omega), wr_k (by omega) (by omega), Int.toNat_natCast, Int.toNat_natCast, rd_k (by omega) (by omega), wr_k (by omega) (by omega), up_o (by omega), h8 ha, h8 hb, cpw_k (by omega), cpw_k (by omega), Int.toNat_natCast, Int.toNat_natCast, show Int.toNat 8 = 8 from rfl]
  · unfold HO at z
    rw [cp_v, if_neg (by omega), cp_v, if_neg (by omega), up_v, if_neg (by omega), up_v, if_neg (by omega)]
  · refine HD.mk ?_ ?_ (fun k hk => ?_) (fun k hk => ?_)
    · rw [cp_v, if_neg (by omega), cp_v, if_neg (by omega), up_o (by omega), up_e]; exact q.kn
    · rw [cp_v, if_neg (by omega), cp_v, if_neg (by omega), up_e]; exact q.kp
    · rw [cp_v, if_neg (by omega), cp_v, if_pos (by omega), up_o (by omega), up_o (by omega), show 8 * a + (8 * b + k - 8 * b) = 8 * a + k by omega]; exact q.ln k hk
    · rw [cp_v, if_pos (by omega), cp_v, if_neg (by omega), up_o (by omega), up_o (by omega), show 8 * a + (8 * b + k - 8 * b) = 8 * a + k by omega]; exact q.ag k hk
/-- a word passed on -/
theorem pa_h {f t u v w : Nat} (hf : f < 8) (ht : t < 8) (hft : f ≠ t) (hu : u < 6) (hv : v < 6) (huv : u ≠ v) (hw : w < 8) (q1 : HD σ τ f u) (q2 : HD σ τ t v) :
    ∃ σ', Du_pass f t w σ = some (0, σ') ∧ (∀ o k, HO f o k → HO t o k → σ' o k = σ o k) ∧ HD σ' (begM (sayM τ u w v) v w) f u ∧ HD σ' (begM (sayM τ u w v) v w) t v := by
  refine ⟨up_s (up_s (up_s (up_s (up_s σ 110 f (an32 (σ 110 f) (xo32 (sl32 1 w) (-1)))) 109 t (or32 (σ 109 t) (sl32 1 w))) 110 t (or32 (σ 110 t) (sl32 1 w))) 111 (8 * t + w) 0) 112 (8 * t + w) 0, ?_, fun o k z1 z2 => ?_, ?_, ?_⟩
  · rw [Du_pass, rd_k (by omega) (by omega), wr_k (by omega) (by omega), Int.toNat_natCast, rd_k (by omega) (by omega), wr_k (by omega) (by omega), Int.toNat_natCast, up_o (by omega), rd_k (by omega) (by omega), wr_k (by omega) (by omega), up_o (by omega), up_k (by omega), hx8 ht hw, wr_k (by omega) (by omega), wr_k (by omega) (by omega), Int.toNat_natCast]
  · unfold HO at z1 z2
    rw [up_v, if_neg (by omega), up_v, if_neg (by omega), up_v, if_neg (by omega), up_v, if_neg (by omega), up_v, if_neg (by omega)]
  · unfold begM sayM
    refine HD.mk ?_ ?_ (fun k hk => ?_) (fun k hk => ?_)
    · rw [up_o (by omega), up_o (by omega), up_o (by omega), up_k (by omega), up_o (by omega), up_k (by omega), up_k (by omega), up_k (by omega), up_k (by omega), up_k (by omega)]; exact q1.kn
    · rw [up_o (by omega), up_o (by omega), up_k (by omega), up_o (by omega), up_e, up_k (by omega), up_k (by omega), up_k (by omega), up_e, q1.kp]
    · rw [up_o (by omega), up_k (by omega), up_o (by omega), up_o (by omega), up_o (by omega), up_k (by omega), up_k (by omega), up_k (by omega), up_k (by omega), up_k (by omega)]; exact q1.ln k hk
    · rw [up_k (by omega), up_o (by omega), up_o (by omega), up_o (by omega), up_o (by omega), up_k (by omega), up_k (by omega), up_k (by omega), up_k (by omega), up_k (by omega)]; exact q1.ag k hk
  · unfold begM sayM
    refine HD.mk ?_ ?_ (fun k hk => ?_) (fun k hk => ?_)
    · rw [up_o (by omega), up_o (by omega), up_o (by omega), up_e, up_k (by omega), up_k (by omega), up_k (by omega), up_k (by omega), up_e, q2.kn]
    · rw [up_o (by omega), up_o (by omega), up_e, up_k (by omega), up_k (by omega), up_e, up_k (by omega), up_k (by omega), q2.kp]
    · by_cases e : k = w
      · subst e
        rw [up_o (by omega), up_e, up_k (by omega), up_e]
      · rw [up_o (by omega), up_k (by omega), up_o (by omega), up_o (by omega), up_o (by omega), up_k (by omega), up_k (by omega), up_k (by omega), up_k (by omega), up_k (by omega)]; exact q2.ln k hk
    · by_cases e : k = w
      · subst e
        rw [up_e, up_e]
      · rw [up_k (by omega), up_o (by omega), up_o (by omega), up_o (by omega), up_o (by omega), up_k (by omega), up_k (by omega), up_k (by omega), up_k (by omega), up_k (by omega)]; exact q2.ag k hk
/-- how much a word grows, by the class -/
theorem gw_h (s : SWH σ τ W) (bW : W ≤ 8) {k : Nat} (hk : k < W) (a d : Int) : Pr_growthOf 8 k a d σ = some (w32 (τ 5 (9 + k) * min d (max 0 (w32 (τ 5 (17 + k) - a)))), σ) := by
  have e : Pr_isWord 8 k σ = some (1, σ) := by rw [Pr_isWord, s.w, if_neg (by omega), if_pos (by omega), if_pos (by omega)]
  rw [Pr_growthOf, e, bd_s, if_neg i10, rd_k (by omega) (by omega), rd_k (by omega) (by omega), Int.toNat_natCast, show (8 : Nat) + 2 = 10 from rfl, show (8 : Nat) + 3 = 11 from rfl, s.gr k hk, s.gy k hk]
theorem gM1_5 (τ : Sg) (i k : Nat) (hi : i < 6) (hk : k < 8) {c : Nat} (h : c < 49 ∨ 145 ≤ c) : gM1 τ i k 5 c = τ 5 c := by
  unfold gM1; split
  · rw [up_k (by omega), up_k (by omega)]
  · rfl
theorem gr_h (hp : PR 8 ρ τ W N D E) {i h : Nat} (hi : i < N) (hh : h < 8) : ∀ (m k n : Nat) (σ : Sg), k + m = W → m < n → SWH σ (gM τ i k) W → HD σ (gM τ i k) h i →
    ∃ σ', Du_growHead_L2 8 h n k σ = some (0, σ') ∧ HD σ' (gM τ i W) h i ∧ ∀ o k, HO h o k → σ' o k = σ o k := by
  intro m
  have bW := hp.bW
  have bN := hp.bN
  induction m with
  | zero =>
    intro k n σ hk hn s q
    obtain ⟨n, rfl⟩ : ∃ x, n = x + 1 := ⟨n - 1, by omega⟩
    obtain rfl : k = W := by omega
    exact ⟨σ, by rw [Du_growHead_L2, s.w, if_neg (by omega)], q, fun _ _ _ => rfl⟩
  | succ m ih =>
    intro k n σ hk hn s q
    obtain ⟨n, rfl⟩ : ∃ x, n = x + 1 := ⟨n - 1, by omega⟩
    have hg := g_r hp hi k (by omega)
    have hkW : k < W := by omega
    rw [Du_growHead_L2, s.w, if_pos (by omega), if_pos (by omega), rd_k (by omega) (by omega), Int.toNat_natCast, q.kp]
    by_cases e : an32 (sr32 (gM τ i k 5 (43 + i)) k) 1 = 1
    · have ex := ex_h hg hi hkW
      have ey := ey_h (gM τ i k) i k
      have g1 : gM τ i (k + 1) = up_s (up_s (gM τ i k) 5 (49 + (8 * i + k)) (gX (gM τ i k) i k)) 5 (97 + (8 * i + k)) (gY (gM τ i k) i k) := by rw [gM, gM1, if_pos e]
      have s' : SWH (up_s (up_s σ 111 (8 * h + k) (gX (gM τ i k) i k)) 112 (8 * h + k) (gY (gM τ i k) i k)) (gM τ i (k + 1)) W :=
        s.fs (fun o x z => by rw [up_o (by omega), up_o (by omega)]) (fun x z => by rw [g1, up_k (by omega), up_k (by omega)]) bW
      have q' : HD (up_s (up_s σ 111 (8 * h + k) (gX (gM τ i k) i k)) 112 (8 * h + k) (gY (gM τ i k) i k)) (gM τ i (k + 1)) h i := by
        rw [g1]
        refine HD.mk ?_ ?_ (fun x hx => ?_) (fun x hx => ?_)
        · rw [up_o (by omega), up_o (by omega), up_k (by omega), up_k (by omega)]; exact q.kn
        · rw [up_o (by omega), up_o (by omega), up_k (by omega), up_k (by omega)]; exact q.kp
        · by_cases z : x = k
          · subst z; rw [up_o (by omega), up_e, up_k (by omega), up_e]
          · rw [up_o (by omega), up_k (by omega), up_k (by omega), up_k (by omega)]; exact q.ln x hx
        · by_cases z : x = k
          · subst z; rw [up_e, up_e]
          · rw [up_k (by omega), up_o (by omega), up_k (by omega), up_k (by omega)]; exact q.ag x hx
      obtain ⟨σ', a1, a2, a3⟩ := ih (k + 1) n _ (by omega) (by omega) s' q'
      refine ⟨σ', ?_, a2, fun o x z => ?_⟩
      · rw [if_pos e, nm_k, hx8 hh (by omega), rd_k (by omega) (by omega), rd_k (by omega) (by omega), Int.toNat_natCast, q.ag k (by omega), q.ln k (by omega), gw_h s bW hkW, bd_s, wr_k (by omega) (by omega), rd_k (by omega) (by omega), up_o (by omega), q.ag k (by omega), wr_k (by omega) (by omega), ex, ey, nm_k, wk8 (by omega)]
        exact a1
      · rw [a3 o x z]
        unfold HO at z
        rw [up_v, if_neg (by omega), up_v, if_neg (by omega)]
    · have g1 : gM τ i (k + 1) = gM τ i k := by rw [gM, gM1, if_neg e]
      obtain ⟨σ', a1, a2, a3⟩ := ih (k + 1) n σ (by omega) (by omega) (by rw [g1]; exact s) (by rw [g1]; exact q)
      refine ⟨σ', ?_, a2, a3⟩
      rw [if_neg e, nm_k, wk8 (by omega)]; exact a1
theorem gr_1 (hp : PR 8 ρ τ W N D E) {i h : Nat} (hi : i < N) (hh : h < 8) (s : SWH σ τ W) (q : HD σ τ h i) :
    ∃ σ', Du_growHead 8 h σ = some (0, σ') ∧ HD σ' (gM τ i W) h i ∧ ∀ o k, HO h o k → σ' o k = σ o k := by
  have bW := hp.bW
  obtain ⟨σ', a⟩ := gr_h hp hi hh W 0 fu σ (by omega) (by unfold fu; omega) s q
  exact ⟨σ', by rw [Du_growHead]; exact a.1, a.2⟩
theorem gM_o (τ : Sg) {i j : Nat} (hij : i ≠ j) : ∀ k, k ≤ 8 → ∀ c, ((49 + 8 * j ≤ c ∧ c < 57 + 8 * j) ∨ (97 + 8 * j ≤ c ∧ c < 105 + 8 * j)) → i < 6 → j < 6 → gM τ i k 5 c = τ 5 c
  | 0, _, _, _, _, _ => rfl
  | k + 1, hk, c, h, hi, hj => by
    rw [gM, gM1]
    split
    · rw [up_k (by omega), up_k (by omega)]; exact gM_o τ hij k (by omega) c h hi hj
    · exact gM_o τ hij k (by omega) c h hi hj
/-- both heads grow -/
theorem gr_2 (hp : PR 8 ρ τ W N D E) {i j a b : Nat} (hi : i < N) (hj : j < N) (hij : i ≠ j) (ha : a < 8) (hb : b < 8) (hab : a ≠ b) (s : SWH σ τ W) (q1 : HD σ τ a i) (q2 : HD σ τ b j) :
    ∃ σ1 σ2, Du_growHead 8 a σ = some (0, σ1) ∧ Du_growHead 8 b σ1 = some (0, σ2) ∧ HD σ2 (gM (gM τ i W) j W) a i ∧ HD σ2 (gM (gM τ i W) j W) b j ∧ (∀ o k, HO a o k → HO b o k → σ2 o k = σ o k) := by
  have bW := hp.bW
  have bN := hp.bN
  obtain ⟨σ1, a1, a2, a3⟩ := gr_1 hp hi ha s q1
  have hp1 := g_r hp hi W (by omega)
  have s1 : SWH σ1 (gM τ i W) W := s.fs (fun o k z => a3 o k (by unfold HO; omega)) (fun k z => gM_f τ (by omega) W bW 5 k (by omega)) bW
  have q2' : HD σ1 (gM τ i W) b j := q2.cg (fun o k z => a3 o k (by unfold HO at z ⊢; omega)) (fun k z => by
    by_cases e : k < 49
    · exact gM_f τ (by omega) W bW 5 k (by omega)
    · exact gM_o τ hij W bW k (by omega) (by omega) (by omega))
  obtain ⟨σ2, b1, b2, b3⟩ := gr_1 hp1 hj hb s1 q2'
  refine ⟨σ1, σ2, a1, b1, ?_, b2, fun o k z1 z2 => (b3 o k z2).trans (a3 o k z1)⟩
  exact a2.cg (fun o k z => b3 o k (by unfold HO at z ⊢; omega)) (fun k z => by
    by_cases e : k < 49
    · exact gM_f _ (by omega) W bW 5 k (by omega)
    · exact gM_o _ (fun w => hij w.symm) W bW k (by omega) (by omega) (by omega))
end
