/-! games: turn by turn -/
def GF (l : Nat) (σ σ' : Sg) : Prop := ∀ o k, (o < 108 ∨ 112 < o ∨ (o = 108 ∧ (k ≠ 4 ∨ 0 < l)) ∨ ((o = 109 ∨ o = 110) ∧ k < 2 * (l + 1)) ∨ ((o = 111 ∨ o = 112) ∧ k < 16 * (l + 1))) → σ' o k = σ o k
def TT (l : Nat) (τ τ' : Sg) : Prop := (∀ o k, o ≠ 12 → (o ≠ 0 ∨ k ≠ 33 ∨ 0 < l) → τ' o k = τ o k) ∧ (∀ k, k < 175 * l → τ' 12 k = τ 12 k) ∧ ∀ k, k < 175 → τ' 12 (175 * l + k) = τ 5 k
def TF (l : Nat) (τ τ' : Sg) : Prop := (∀ o k, o ≠ 12 → (o ≠ 0 ∨ k ≠ 33 ∨ 0 < l) → τ' o k = τ o k) ∧ ∀ k, k < 175 * l → τ' 12 k = τ 12 k
theorem GF.rfl {l : Nat} {σ : Sg} : GF l σ σ := fun _ _ _ => Eq.refl _
theorem GF.tr {l : Nat} {a b c : Sg} (h : GF l a b) (h' : GF l b c) : GF l a c := fun o k q => (h' o k q).trans (h o k q)
section
variable {σ τ σ' τ' ρ : Sg} {W N D E : Nat}
def layT (τ : Sg) (l n : Nat) : Sg := fun o k => if o = 12 ∧ 175 * l ≤ k ∧ k < 175 * l + n then τ 5 (k - 175 * l) else τ o k
def tkT (τ : Sg) (l n : Nat) : Sg := fun o k => if o = 5 ∧ k < n then τ 12 (175 * l + k) else τ o k
theorem i175 {a v : Nat} (ha : a ≤ 3) (hv : v < 175) : w32 (w32 (175 * (a : Int)) + v) = ((175 * a + v : Nat) : Int) := by
  rw [w32_i (x := 175 * (a : Int)) (by omega) (by omega), w32_i (by omega) (by omega)]; omega
theorem lay_t {l : Nat} (hl : l ≤ 3) (τ : Sg) : M_laysTurn l τ = some (0, layT τ l 175) := by
  rw [M_laysTurn]
  have q := loopN (X := fun n k => M_laysTurn_L2 l n k (layT τ l k)) (W := 175) (R := some (0, layT τ l 175)) ?_ ?_ fu (by unfold fu; omega)
  · rw [show layT τ l 0 = τ by funext o k; unfold layT; rw [if_neg (by omega)]] at q; exact q
  · intro k n hk
    show M_laysTurn_L2 l (n + 1) k _ = _
    rw [M_laysTurn_L2, if_pos (by omega), rd_k (by omega) (by omega), i175 hl hk, wr_k (by omega) (by omega), Int.toNat_natCast, Int.toNat_natCast, nm_k, w32_i (by omega) (by omega), suc]
    congr 1
    funext o x; rw [up_v]; unfold layT
    by_cases e : o = 12 ∧ x = 175 * l + k
    · rw [if_pos e, if_neg (by omega), if_pos (by omega), e.2]; congr 1; omega
    · rw [if_neg e]
      by_cases g : o = 12 ∧ 175 * l ≤ x ∧ x < 175 * l + k
      · rw [if_pos g, if_pos (by omega)]
      · rw [if_neg g, if_neg (by omega)]
  · intro n
    show M_laysTurn_L2 l (n + 1) (175 : Nat) _ = _
    rw [M_laysTurn_L2, if_neg (by omega)]
theorem tk_t {l : Nat} (hl : l ≤ 3) (τ : Sg) : M_takesTurn l τ = some (0, tkT τ l 175) := by
  rw [M_takesTurn]
  have q := loopN (X := fun n k => M_takesTurn_L2 l n k (tkT τ l k)) (W := 175) (R := some (0, tkT τ l 175)) ?_ ?_ fu (by unfold fu; omega)
  · rw [show tkT τ l 0 = τ by funext o k; unfold tkT; rw [if_neg (by omega)]] at q; exact q
  · intro k n hk
    show M_takesTurn_L2 l (n + 1) k _ = _
    rw [M_takesTurn_L2, if_pos (by omega), i175 hl hk, rd_k (by omega) (by omega), wr_k (by omega) (by omega), Int.toNat_natCast, Int.toNat_natCast, nm_k, w32_i (by omega) (by omega), suc]
    congr 1
    funext o x; rw [up_v]; unfold tkT
    by_cases e : o = 5 ∧ x = k
    · rw [if_pos e, if_neg (by omega), if_pos (by omega), e.2]
    · rw [if_neg e]
      by_cases g : o = 5 ∧ x < k
      · rw [if_pos g, if_pos (by omega)]
      · rw [if_neg g, if_neg (by omega)]
  · intro n
    show M_takesTurn_L2 l (n + 1) (175 : Nat) _ = _
    rw [M_takesTurn_L2, if_neg (by omega)]
/-- a turn of the class: two heads copied, a word passed or none; of the reference: the word passed, both grow -/
theorem turn_r {l s u v k : Nat} {dd : Int} (hl : l ≤ 2) (hs : s = l % 2) (hu : u < N) (hv : v < N) (huv : u ≠ v) (g : GP τ W N) (sw : SWH σ τ W dd) {i j : Nat} (hi : i < N) (hj : j < N) (hij : i ≠ j)
    (q1 : HD σ τ W (dd + l) (2 * l) i) (q2 : HD σ τ W (dd + l) (2 * l + 1) j) (hu2 : u = if s = 0 then i else j) (hv2 : v = if s = 0 then j else i) (hk : k ≤ W) :
    ∃ σ', Du_turn 8 l k σ = some (0, σ') ∧ GP (gM (gM (if k < W then begM (sayM τ u k v) v k else τ) i W) j W) W N ∧ SWH σ' (gM (gM (if k < W then begM (sayM τ u k v) v k else τ) i W) j W) W dd ∧
      HD σ' (gM (gM (if k < W then begM (sayM τ u k v) v k else τ) i W) j W) W (dd + (l + 1 : Nat)) (2 * (l + 1)) i ∧ HD σ' (gM (gM (if k < W then begM (sayM τ u k v) v k else τ) i W) j W) W (dd + (l + 1 : Nat)) (2 * (l + 1) + 1) j ∧ (∀ o k, HO (2 * (l + 1)) o k → HO (2 * (l + 1) + 1) o k → σ' o k = σ o k) := by
  have bW := g.bW
  have bN := g.bN
  have db := sw.db
  obtain ⟨σ1, a1, a2, a3⟩ := ch_h (σ := σ) (a := 2 * l) (b := 2 * (l + 1)) (by omega) (by omega) (by omega)
  obtain ⟨σ2, b1, b2, b3⟩ := ch_h (σ := σ1) (a := 2 * l + 1) (b := 2 * (l + 1) + 1) (by omega) (by omega) (by omega)
  have r1 : HD σ2 τ W (dd + l) (2 * (l + 1)) i := (a3 τ W _ i bW q1).fs bW (by omega) b2
  have r2 : HD σ2 τ W (dd + l) (2 * (l + 1) + 1) j := b3 τ W _ j bW (q2.fs bW (by omega) a2)
  have sw2 : SWH σ2 τ W dd := sw.fs (fun o k z => by rw [b2 o k (by unfold HO; omega), a2 o k (by unfold HO; omega)]) (fun _ _ => rfl) bW
  have fr2 : ∀ o k, HO (2 * (l + 1)) o k → HO (2 * (l + 1) + 1) o k → σ2 o k = σ o k := fun o k z1 z2 => (b2 o k z2).trans (a2 o k z1)
  have s01 : s = 0 ∨ s = 1 := by omega
  -- the word
  have mid : ∃ σ3, Du_turn_J42 8 l k s (2 * (l + 1) : Nat) σ2 = some (0, σ3) ∧ GP (if k < W then begM (sayM τ u k v) v k else τ) W N ∧ SWH σ3 (if k < W then begM (sayM τ u k v) v k else τ) W dd ∧
      HD σ3 (if k < W then begM (sayM τ u k v) v k else τ) W (dd + l) (2 * (l + 1)) i ∧ HD σ3 (if k < W then begM (sayM τ u k v) v k else τ) W (dd + l) (2 * (l + 1) + 1) j ∧ ∀ o k, HO (2 * (l + 1)) o k → HO (2 * (l + 1) + 1) o k → σ3 o k = σ2 o k := by
    by_cases e : k < W
    · rw [if_pos e]
      have hb := g.say huv hu hv e
      have st : ∀ x, x < 37 → begM (sayM τ u k v) v k 5 x = τ 5 x := fun x hx => by unfold begM sayM; rw [up_k (by omega), up_k (by omega), up_k (by omega), up_k (by omega), up_k (by omega)]
      rcases s01 with z | z
      · rw [if_pos z] at hu2 hv2
        subst hu2; subst hv2
        obtain ⟨σ3, c1, c2, c3, c4⟩ := pa_h (f := 2 * (l + 1)) (t := 2 * (l + 1) + 1) (w := k) g (by omega) (by omega) (by omega) hu hv huv e (by omega) r1 r2
        refine ⟨σ3, ?_, hb, sw2.fs (fun o x w => c2 o x (by unfold HO; omega) (by unfold HO; omega)) st bW, c3, c4, c2⟩
        rw [Du_turn_J42, sw2.w, if_pos (by omega), z, sw2.dt, w32_i (x := dd + (l : Int)) (by omega) (by omega), w32_i (x := ((2 * (l + 1) : Nat) : Int) + (0 : Nat)) (by omega) (by omega), w32_i (x := ((2 * (l + 1) : Nat) : Int) + 1) (by omega) (by omega), w32_i (by omega) (by omega), show ((2 * (l + 1) : Nat) : Int) + (0 : Nat) = (2 * (l + 1) : Nat) by omega, show ((2 * (l + 1) : Nat) : Int) + 1 - (0 : Nat) = (2 * (l + 1) + 1 : Nat) by omega, c1, bd_s]
      · rw [if_neg (by omega)] at hu2 hv2
        subst hu2; subst hv2
        obtain ⟨σ3, c1, c2, c3, c4⟩ := pa_h (f := 2 * (l + 1) + 1) (t := 2 * (l + 1)) (w := k) g (by omega) (by omega) (by omega) hu hv huv e (by omega) r2 r1
        refine ⟨σ3, ?_, hb, sw2.fs (fun o x w => c2 o x (by unfold HO; omega) (by unfold HO; omega)) st bW, c4, c3, fun o x w1 w2 => c2 o x w2 w1⟩
        rw [Du_turn_J42, sw2.w, if_pos (by omega), z, sw2.dt, w32_i (x := dd + (l : Int)) (by omega) (by omega), w32_i (x := ((2 * (l + 1) : Nat) : Int) + (1 : Nat)) (by omega) (by omega), w32_i (x := ((2 * (l + 1) : Nat) : Int) + 1) (by omega) (by omega), w32_i (by omega) (by omega), show ((2 * (l + 1) : Nat) : Int) + (1 : Nat) = (2 * (l + 1) + 1 : Nat) by omega, show ((2 * (l + 1) : Nat) : Int) + 1 - (1 : Nat) = (2 * (l + 1) : Nat) by omega, c1, bd_s]
    · rw [if_neg e]
      refine ⟨σ2, ?_, g, sw2, r1, r2, fun _ _ _ _ => rfl⟩
      rw [Du_turn_J42, sw2.w, if_neg (by omega)]
  obtain ⟨σ3, m1, m2, m3, m4, m5, m6⟩ := mid
  obtain ⟨g3, g4⟩ := gr_2 m2 hi hj hij m4 m5
  obtain ⟨f, hf⟩ : ∃ f, fu = f + 3 := ⟨99997, rfl⟩
  have e0 : dd + ((l + 1 : Nat) : Int) = dd + (l : Int) + 1 := by omega
  rw [e0]
  refine ⟨σ3, ?_, (m2.grow hi).grow hj, ?_, g3, g4, ?_⟩
  · rw [Du_turn, dv_k (by omega), rm_n (by omega) (by omega) (by omega) (by omega), nm_k, show ((l : Int) % 2) = ((s : Nat) : Int) by omega, w32_i (x := (l : Int) + 1) (by omega) (by omega), w32_i (x := ((l : Int) + 1) * 2) (by omega) (by omega), show ((l : Int) + 1) * 2 = ((2 * (l + 1) : Nat) : Int) by omega]
    have e1 : Du_turn_L15 8 l k s (2 * (l + 1) : Nat) (fun x6 x7 s8 => Du_turn_J42 8 l k x6 x7 s8) fu 0 σ = Du_turn_J42 8 l k s (2 * (l + 1) : Nat) σ2 := by
      rw [hf, Du_turn_L15, if_pos (by omega), w32_i (x := (l : Int) * 2) (by omega) (by omega), w32_i (x := (l : Int) * 2 + 0) (by omega) (by omega), w32_i (x := ((2 * (l + 1) : Nat) : Int) + 0) (by omega) (by omega), show (l : Int) * 2 + 0 = ((2 * l : Nat) : Int) by omega, show ((2 * (l + 1) : Nat) : Int) + 0 = ((2 * (l + 1) : Nat) : Int) by omega, a1, bd_s, nm_k, w32_i (x := (0 : Int) + 1) (by omega) (by omega), show (0 : Int) + 1 = 1 from rfl]
      rw [Du_turn_L15, if_pos (by omega), w32_i (x := (l : Int) * 2) (by omega) (by omega), w32_i (x := (l : Int) * 2 + 1) (by omega) (by omega), w32_i (x := ((2 * (l + 1) : Nat) : Int) + 1) (by omega) (by omega), show (l : Int) * 2 + 1 = ((2 * l + 1 : Nat) : Int) by omega, show ((2 * (l + 1) : Nat) : Int) + 1 = ((2 * (l + 1) + 1 : Nat) : Int) by omega, b1, bd_s, nm_k, w32_i (x := (1 : Int) + 1) (by omega) (by omega), show (1 : Int) + 1 = 2 from rfl]
      rw [Du_turn_L15, if_neg (by omega)]
    rw [e1, m1]
  · exact m3.fs (fun _ _ _ => rfl) (fun x z => by rw [gM_f _ (by omega) W bW 5 x (by omega), gM_f _ (by omega) W bW 5 x (by omega)]) bW
  · exact fun o x z1 z2 => (m6 o x z1 z2).trans (fr2 o x z1 z2)
/-- whether the class's first can say a word -/
theorem cs_h {f t u v k : Nat} {dd : Int} (hf : f < 8) (ht : t < 8) (q1 : HD σ τ W dd f u) (q2 : HD σ τ W dd t v) (hu : u < N) (hv : v < N) (huv : u ≠ v) (hp : GP τ W N) (hk : k < W) : Du_canSay f t k σ = some (if u ≠ v ∧ an32 (sr32 (τ 5 (43 + u)) k) 1 = 1 ∧ ¬ an32 (sr32 (τ 5 (37 + v)) k) 1 = 1 then 1 else 0, σ) := by
  have bW := hp.bW
  have g := hp.knb v hv
  have g2 := pow_le bW
  have z := hb_01 (x := τ 5 (37 + v)) (k := k) g.1 (by omega) (by omega)
  rw [Du_canSay, rd_k (by omega) (by omega), rd_k (by omega) (by omega), Int.toNat_natCast, Int.toNat_natCast, q1.kp, q2.kn]
  by_cases e1 : an32 (sr32 (τ 5 (43 + u)) k) 1 = 1
  · rw [if_pos e1]
    by_cases e2 : an32 (sr32 (τ 5 (37 + v)) k) 1 = 1
    · rw [if_neg (by omega), if_neg (fun w => w.2.2 e2)]
    · rw [if_pos (by omega), if_pos ⟨huv, e1, e2⟩]
  · rw [if_neg e1, if_neg (fun w => e1 w.2.1)]
def opU (l W k : Nat) (σ : Sg) : Sg := if l = 0 then (if k < W then up_s σ 108 4 k else up_s σ 108 4 (-1)) else σ
theorem op_h {l k : Nat} {rc : Nat → Int → Int → Sg → Rs} {a3 v4 v5 v9 : Int} {k45 : Int → Int → Int → Sg → Rs} (hw : σ 8 10 = W) (hk : k < 1000) : Du_best_J133 rc 8 l a3 v4 v5 k v9 k45 σ = k45 v9 1 (k + 1 : Nat) (opU l W k σ) := by
  rw [Du_best_J133, hw]; unfold opU
  simp only [nm_k]
  rw [w32_i (x := (k : Int) + 1) (by omega) (by omega), suc]
  by_cases e : l = 0
  · rw [if_pos (by omega), if_pos e]
    by_cases e2 : k < W
    · rw [if_pos (by omega), if_pos e2]
    · rw [if_neg (by omega), if_neg e2]
  · rw [if_neg (by omega), if_neg e]
theorem opU_f (l W k : Nat) (σ : Sg) : GF l σ (opU l W k σ) := fun o x z => by
  unfold opU
  by_cases e : l = 0
  · rw [if_pos e]
    split
    · rw [up_v, if_neg (by omega)]
    · rw [up_v, if_neg (by omega)]
  · rw [if_neg e]
theorem opU_4 {W k : Nat} (hk : k ≤ W) (σ : Sg) : opU 0 W k σ 108 4 = if (k : Int) = W then -1 else (k : Int) := by
  unfold opU
  rw [if_pos rfl]
  by_cases e : k < W
  · rw [if_pos e, up_e, if_neg (by omega)]
  · rw [if_neg e, up_e, if_pos (by omega)]
/-- what the reference does behind a word, told apart from how it got there -/
theorem pl_n {rc : Int → Int → Int → Int → Sg → Rs} {i j l a4 v5 v6 v7 v8 v9 : Int} {k : Nat} {k69 : Int → Int → Int → Sg → Rs} {τ1 τ2 : Sg} {v : Int} (hk : k < 1000)
    (e1 : ∃ s, M_grows i τ = some (0, s) ∧ M_grows j s = some (0, τ1)) (e2 : rc i j (w32 (l + 1)) a4 τ1 = some (v, τ2)) (e3 : M_takesTurn l τ2 = some (0, τ')) :
    M_plays_J132 rc i j l a4 v5 v6 v7 v8 v9 k k69 τ = if v9 < 0 ∨ (v5 = 0 ∧ v < v8) ∨ (¬ v5 = 0 ∧ v8 < v) then k69 v k (k + 1 : Nat) τ' else k69 v8 v9 (k + 1 : Nat) τ' := by
  obtain ⟨s, a, b⟩ := e1
  rw [M_plays_J132, a, bd_s, b, bd_s, e2, bd_s, e3, bd_s]
  simp only [nm_k]
  rw [w32_i (x := (k : Int) + 1) (by omega) (by omega), suc]
  by_cases c1 : v9 < 0
  · rw [if_pos c1, if_pos (.inl c1)]
  · rw [if_neg c1]
    by_cases c2 : v5 = 0
    · rw [if_pos c2]
      by_cases c3 : v < v8
      · rw [if_pos c3, if_pos (.inr (.inl ⟨c2, c3⟩))]
      · rw [if_neg c3, if_neg (fun z => z.elim c1 (fun z => z.elim (fun z => c3 z.2) (fun z => z.1 c2)))]
    · rw [if_neg c2]
      by_cases c3 : v8 < v
      · rw [if_pos c3, if_pos (.inr (.inr ⟨c2, c3⟩))]
      · rw [if_neg c3, if_neg (fun z => z.elim c1 (fun z => z.elim (fun z => c2 z.1) (fun z => c3 z.2)))]
end
