/-! the class's cursor and the reference's token side by side; what both do with one token -/
def T5 (σ σ' : Sg) : Prop := ∀ o k, (o ≠ 5 ∨ k < 5 ∨ 12 < k) → σ' o k = σ o k
def T0 (τ τ' : Sg) : Prop := ∀ o k, (o ≠ 0 ∨ k < 12 ∨ 19 < k) → τ' o k = τ o k
theorem T5.rf {σ : Sg} : T5 σ σ := fun _ _ _ => rfl
theorem T0.rf {τ : Sg} : T0 τ τ := fun _ _ _ => rfl
theorem T5.tr {a b c : Sg} (h : T5 a b) (h' : T5 b c) : T5 a c := fun o k q => (h' o k q).trans (h o k q)
theorem T0.tr {a b c : Sg} (h : T0 a b) (h' : T0 b c) : T0 a c := fun o k q => (h' o k q).trans (h o k q)
def FLT (σ τ : Sg) : Prop := ∃ f q : Int, 0 < f ∧ σ 5 11 = f ∧ σ 5 12 = q ∧ τ 0 12 = f ∧ τ 0 13 = q
theorem FLT.b {σ τ : Sg} (h : FLT σ τ) : 0 < τ 0 12 := by obtain ⟨f, q, h1, _, _, h4, _⟩ := h; omega
theorem FLT.cg {σ τ τ' : Sg} (h : FLT σ τ) (h1 : τ' 0 12 = τ 0 12) (h2 : τ' 0 13 = τ 0 13) : FLT σ τ' := by
  obtain ⟨f, q, a, b, c, d, e⟩ := h
  exact ⟨f, q, a, b, c, by rw [h1]; exact d, by rw [h2]; exact e⟩
def FT (σ τ σ' τ' : Sg) : Prop := FLT σ' τ' ∧ T5 σ σ' ∧ T0 τ τ'
def CU (n R : Nat) (B : Nat → Int) (b : Nat → Nat) (j k v p : Nat) (σ τ : Sg) : Prop := (RW n R B b σ) ∧ (TXM n B τ) ∧ (j < R) ∧ (σ 5 5 = (j : Nat)) ∧ (σ 5 6 = (k : Nat)) ∧ (σ 5 7 = (p : Nat)) ∧ (σ 5 8 = (v : Nat)) ∧ (k = 0 ↔ j + 1 = R) ∧ (k < 16) ∧ (v < 1099511627776) ∧ (τ 0 15 = (p : Nat)) ∧ (τ 0 16 = (b (j + 1) : Nat)) ∧ (TD k v τ) ∧ (τ 0 12 = 0)
theorem CU.mk {n R : Nat} {B : Nat → Int} {b : Nat → Nat} {j k v p : Nat} {σ τ : Sg} (hrow : RW n R B b σ) (htxm : TXM n B τ) (hjR : j < R) (hix : σ 5 5 = (j : Nat)) (hkd : σ 5 6 = (k : Nat)) (hpl : σ 5 7 = (p : Nat)) (hvl : σ 5 8 = (v : Nat)) (hed : k = 0 ↔ j + 1 = R) (hkb : k < 16) (hvb : v < 1099511627776) (hap : τ 0 15 = (p : Nat)) (hbh : τ 0 16 = (b (j + 1) : Nat)) (htd : TD k v τ) (hok : τ 0 12 = 0) : CU n R B b j k v p σ τ := ⟨hrow, htxm, hjR, hix, hkd, hpl, hvl, hed, hkb, hvb, hap, hbh, htd, hok⟩
theorem CU.row {n R : Nat} {B : Nat → Int} {b : Nat → Nat} {j k v p : Nat} {σ τ : Sg} (h : CU n R B b j k v p σ τ) : RW n R B b σ := h.1
theorem CU.txm {n R : Nat} {B : Nat → Int} {b : Nat → Nat} {j k v p : Nat} {σ τ : Sg} (h : CU n R B b j k v p σ τ) : TXM n B τ := h.2.1
theorem CU.jR {n R : Nat} {B : Nat → Int} {b : Nat → Nat} {j k v p : Nat} {σ τ : Sg} (h : CU n R B b j k v p σ τ) : j < R := h.2.2.1
theorem CU.ix {n R : Nat} {B : Nat → Int} {b : Nat → Nat} {j k v p : Nat} {σ τ : Sg} (h : CU n R B b j k v p σ τ) : σ 5 5 = (j : Nat) := h.2.2.2.1
theorem CU.kd {n R : Nat} {B : Nat → Int} {b : Nat → Nat} {j k v p : Nat} {σ τ : Sg} (h : CU n R B b j k v p σ τ) : σ 5 6 = (k : Nat) := h.2.2.2.2.1
theorem CU.pl {n R : Nat} {B : Nat → Int} {b : Nat → Nat} {j k v p : Nat} {σ τ : Sg} (h : CU n R B b j k v p σ τ) : σ 5 7 = (p : Nat) := h.2.2.2.2.2.1
theorem CU.vl {n R : Nat} {B : Nat → Int} {b : Nat → Nat} {j k v p : Nat} {σ τ : Sg} (h : CU n R B b j k v p σ τ) : σ 5 8 = (v : Nat) := h.2.2.2.2.2.2.1
theorem CU.ed {n R : Nat} {B : Nat → Int} {b : Nat → Nat} {j k v p : Nat} {σ τ : Sg} (h : CU n R B b j k v p σ τ) : k = 0 ↔ j + 1 = R := h.2.2.2.2.2.2.2.1
theorem CU.kb {n R : Nat} {B : Nat → Int} {b : Nat → Nat} {j k v p : Nat} {σ τ : Sg} (h : CU n R B b j k v p σ τ) : k < 16 := h.2.2.2.2.2.2.2.2.1
theorem CU.vb {n R : Nat} {B : Nat → Int} {b : Nat → Nat} {j k v p : Nat} {σ τ : Sg} (h : CU n R B b j k v p σ τ) : v < 1099511627776 := h.2.2.2.2.2.2.2.2.2.1
theorem CU.ap {n R : Nat} {B : Nat → Int} {b : Nat → Nat} {j k v p : Nat} {σ τ : Sg} (h : CU n R B b j k v p σ τ) : τ 0 15 = (p : Nat) := h.2.2.2.2.2.2.2.2.2.2.1
theorem CU.bh {n R : Nat} {B : Nat → Int} {b : Nat → Nat} {j k v p : Nat} {σ τ : Sg} (h : CU n R B b j k v p σ τ) : τ 0 16 = (b (j + 1) : Nat) := h.2.2.2.2.2.2.2.2.2.2.2.1
theorem CU.td {n R : Nat} {B : Nat → Int} {b : Nat → Nat} {j k v p : Nat} {σ τ : Sg} (h : CU n R B b j k v p σ τ) : TD k v τ := h.2.2.2.2.2.2.2.2.2.2.2.2.1
theorem CU.ok {n R : Nat} {B : Nat → Int} {b : Nat → Nat} {j k v p : Nat} {σ τ : Sg} (h : CU n R B b j k v p σ τ) : τ 0 12 = 0 := h.2.2.2.2.2.2.2.2.2.2.2.2.2
def AD (n R : Nat) (B : Nat → Int) (b : Nat → Nat) (j : Nat) (σ τ σ' τ' : Sg) : Prop := (∃ k v p, CU n R B b (j + 1) k v p σ' τ') ∧ T5 σ σ' ∧ T0 τ τ'
theorem TD.cg {k v : Nat} {τ τ' : Sg} (h : TD k v τ) (ht : ∀ x, 14 ≤ x → x ≤ 19 → τ' 0 x = τ 0 x) : TD k v τ' := by
  unfold TD at h ⊢
  rw [ht 14 (by omega) (by omega), ht 17 (by omega) (by omega), ht 18 (by omega) (by omega), ht 19 (by omega) (by omega)]
  exact h
section
variable {n R j k v p : Nat} {B : Nat → Int} {b : Nat → Nat} {σ τ σ' τ' : Sg}
theorem CU.cg (h : CU n R B b j k v p σ τ) (hs : ∀ o x, ((o = 5 ∧ 4 ≤ x ∧ x ≤ 8) ∨ o = 7) → σ' o x = σ o x) (ht : ∀ o x, ((o = 0 ∧ (x = 9 ∨ (12 ≤ x ∧ x ≤ 19))) ∨ o = 4) → τ' o x = τ o x) : CU n R B b j k v p σ' τ' :=
  CU.mk (h.row.cg (hs _ _ (by omega)) (fun x => hs _ _ (by omega))) (h.txm.cg (ht _ _ (by omega)) (fun x => ht _ _ (by omega))) h.jR
    (by rw [hs _ _ (by omega)]; exact h.ix) (by rw [hs _ _ (by omega)]; exact h.kd) (by rw [hs _ _ (by omega)]; exact h.pl) (by rw [hs _ _ (by omega)]; exact h.vl) h.ed h.kb h.vb
    (by rw [ht _ _ (by omega)]; exact h.ap) (by rw [ht _ _ (by omega)]; exact h.bh) (h.td.cg (fun x _ _ => ht _ _ (by omega))) (by rw [ht _ _ (by omega)]; exact h.ok)
theorem CU.take (h : CU n R B b j k v p σ τ) (hk : k ≠ 0) : ∃ σ' τ' k' v' p', To_take σ = some (0, σ') ∧ M_advance τ = some (0, τ') ∧ CU n R B b (j + 1) k' v' p' σ' τ' ∧ T5 σ σ' ∧ T0 τ τ' ∧ σ' 5 9 = p ∧ σ' 5 10 = v := by
  have hj := h.jR
  have he := h.ed
  obtain ⟨σ', k', v', p', t1, t2, t3, t4, t5, t6, t7, t8, t9, t10, t11, t12, t13⟩ := take_h (j := j + 1) h.row (by rw [h.ix]; omega) (by omega)
  obtain ⟨τ', a1, a2, a3, a4, a5⟩ := adv_m h.txm h.bh t9
  refine ⟨σ', τ', k', v', p', t1, a1, ?_, fun o x q => t13 o x (by omega), fun o x q => a2 o x (by omega), by rw [t7]; exact h.pl, by rw [t8]; exact h.vl⟩
  exact CU.mk t2 (h.txm.cg (a2 _ _ (by omega)) (fun x => a2 _ _ (by omega))) (by omega) t3 t4 t5 t6 t10 t11 t12 a3 a4 a5 (by rw [a2 _ _ (by omega)]; exact h.ok)
theorem TD.bad (h : TD k v τ) : k = 1 ↔ τ 0 14 = 4 := by
  rcases h with ⟨a, b⟩ | ⟨a, b⟩ | ⟨a, b, c, d⟩ | ⟨a, b, c, _, d⟩ | ⟨a, b, c, d⟩ | ⟨a, b, c⟩ | ⟨a, b, c, d⟩ <;> omega
theorem TD.lets (h : TD k v τ) : (k = 2 ∨ k = 3 ∨ k = 4) ↔ τ 0 14 = 1 := by
  rcases h with ⟨a, b⟩ | ⟨a, b⟩ | ⟨a, b, c, d⟩ | ⟨a, b, c, _, d⟩ | ⟨a, b, c, d⟩ | ⟨a, b, c⟩ | ⟨a, b, c, d⟩ <;> omega
theorem TD.en0 (h : TD k v τ) : k = 0 ↔ τ 0 14 = 0 := by
  rcases h with ⟨a, b⟩ | ⟨a, b⟩ | ⟨a, b, c, d⟩ | ⟨a, b, c, _, d⟩ | ⟨a, b, c, d⟩ | ⟨a, b, c⟩ | ⟨a, b, c, d⟩ <;> omega
theorem TD.num (h : TD k v τ) : (k = 5 ↔ τ 0 14 = 2) ∧ (k = 5 → τ 0 17 = v ∧ v ≤ 9999) := by
  rcases h with ⟨a, b⟩ | ⟨a, b⟩ | ⟨a, b, c, d⟩ | ⟨a, b, c, _, d⟩ | ⟨a, b, c, d⟩ | ⟨a, b, c⟩ | ⟨a, b, c, d⟩ <;> omega
theorem TD.sgn (h : TD k v τ) : (k = 6 ↔ τ 0 14 = 3) ∧ (k = 6 → τ 0 17 = v ∧ 59 ≤ v ∧ v ≤ 62) := by
  rcases h with ⟨a, b⟩ | ⟨a, b⟩ | ⟨a, b, c, d⟩ | ⟨a, b, c, _, d⟩ | ⟨a, b, c, d⟩ | ⟨a, b, c⟩ | ⟨a, b, c, d⟩ <;> omega
theorem TD.nam (h : TD k v τ) (hk : k = 3) : NC v (τ 0 19) := by
  rcases h with ⟨a, b⟩ | ⟨a, b⟩ | ⟨a, b, c, d⟩ | ⟨a, b, c, e, d⟩ | ⟨a, b, c, d⟩ | ⟨a, b, c⟩ | ⟨a, b, c, d⟩
  · omega
  · omega
  · omega
  · exact e
  · omega
  · omega
  · omega
theorem TD.k2 (h : TD k v τ) (hk : k = 2) : v < 25 := by
  rcases h with ⟨a, b⟩ | ⟨a, b⟩ | ⟨a, b, c, d⟩ | ⟨a, b, c, _, d⟩ | ⟨a, b, c, d⟩ | ⟨a, b, c⟩ | ⟨a, b, c, d⟩ <;> omega
theorem CU.kn (h : CU n R B b j k v p σ τ) : To_keyNext σ = some (if k = 2 then (v : Int) else -1, σ) := by
  rw [To_keyNext, h.kd, h.vl]
  by_cases d : k = 2
  · have := h.td.k2 d
    rw [if_pos (by omega), if_pos d, w32_i (by omega) (by omega)]
  · rw [if_neg (by omega), if_neg d]
/-! faults -/
def fh (σ : Sg) (f q : Int) : Sg := up_s (up_s σ 5 11 f) 5 12 q
def fm (τ : Sg) (f q : Int) : Sg := up_s (up_s τ 0 12 f) 0 13 q
theorem fm_12 (τ : Sg) (f q : Int) : fm τ f q 0 12 = f := by unfold fm; rw [up_k (by omega), up_e]
theorem fl_h (σ : Sg) (f q : Int) : T5 σ (fh σ f q) := fun o k z => by unfold fh; rw [up_v, if_neg (by omega), up_v, if_neg (by omega)]
theorem fl_m (τ : Sg) (f q : Int) : T0 τ (fm τ f q) := fun o k z => by unfold fm; rw [up_v, if_neg (by omega), up_v, if_neg (by omega)]
theorem fl_2 (σ τ : Sg) {f : Int} (q : Int) (hf : 0 < f) : FLT (fh σ f q) (fm τ f q) := by
  refine ⟨f, q, hf, ?_, ?_, fm_12 .., ?_⟩
  · unfold fh; rw [up_k (by omega), up_e]
  · unfold fh; rw [up_e]
  · unfold fm; rw [up_e]
theorem rej_h {q : Int} (h9 : σ 5 9 = q) (f : Int) : To_reject f σ = some (0, fh σ f q) := by
  rw [To_reject, nm_k, up_k (by omega), h9, nm_k]; rfl
theorem fail_m (h12 : τ 0 12 = 0) (f q : Int) : M_fail f q τ = some (0, fm τ f q) := by
  rw [M_fail, h12, if_neg (by omega), nm_k, nm_k]; rfl
theorem CU.mis (h : CU n R B b j k v p σ τ) : ∃ f : Int, 0 < f ∧ To_misfit σ = some (0, fh σ f p) ∧ M_amiss τ = some (0, fm τ f p) := by
  have o := h.td.bad
  by_cases c : k = 1
  · refine ⟨1, by omega, ?_, ?_⟩
    · rw [To_misfit, h.kd, if_pos (by omega), nm_k, up_k (by omega), h.pl, nm_k]; rfl
    · rw [M_amiss, if_pos (o.1 c), h.ap, fail_m h.ok, bd_s]
  · refine ⟨2, by omega, ?_, ?_⟩
    · rw [To_misfit, h.kd, if_neg (by omega), nm_k, up_k (by omega), h.pl, nm_k]; rfl
    · rw [M_amiss, if_neg (fun z => c (o.2 z)), h.ap, fail_m h.ok, bd_s]
end
section
variable {τ : Sg}
theorem fail_b (h : 0 < τ 0 12) (f q : Int) : M_fail f q τ = some (0, τ) := by rw [M_fail, if_pos h]
theorem amiss_b (h : 0 < τ 0 12) : M_amiss τ = some (0, τ) := by
  rw [M_amiss]; split
  · rw [fail_b h, bd_s]
  · rw [fail_b h, bd_s]
theorem must_b (h : 0 < τ 0 12) (x : Int) : M_must x τ = some (0, τ) := by rw [M_must, if_pos h]
theorem c19_b (h : 0 < τ 0 12) (x y : Int) : M_count_J19 x y τ = some (0, τ) := by rw [M_count_J19, if_neg (by omega), M_count_J50, if_pos h]
theorem count_b (h : 0 < τ 0 12) (x y : Int) : M_count x y τ = some (0, τ) := by rw [M_count, if_neg (by omega), c19_b h]
theorem behind_b (h : 0 < τ 0 12) (z x y : Int) : M_behindWord z x y τ = some (0, τ) := by rw [M_behindWord, must_b h, bd_s, count_b h, bd_s]
theorem perh_b (h : 0 < τ 0 12) (x : Int) : M_perhaps x τ = some (0, τ) := by rw [M_perhaps, if_pos h]
theorem told_b (h : 0 < τ 0 12) (x y : Int) : M_told x y τ = some (0, τ) := by rw [M_told, if_neg (by omega), M_told_J18, if_pos h]
theorem rt_b (h : 0 < τ 0 12) (x y : Int) : M_readTold x y τ = some (0, τ) := by rw [M_readTold, told_b h, bd_s, must_b h, bd_s]
theorem ro_b (h : 0 < τ 0 12) (x y : Int) : M_readOther x y τ = some (0, τ) := by rw [M_readOther, told_b h, bd_s, if_neg (by omega), must_b h, bd_s]
theorem isW_t (w : Int) (τ : Sg) : ∃ r, M_isWord w τ = some (r, τ) := by
  rw [M_isWord]
  by_cases c : τ 0 14 = 1
  · by_cases d : τ 0 19 = w
    · exact ⟨1, by rw [if_pos c, if_pos d]⟩
    · exact ⟨0, by rw [if_pos c, if_neg d]⟩
  · exact ⟨0, by rw [if_neg c]⟩
theorem isW_z {w : Int} (τ : Sg) : ∃ r, bd (M_isWord w τ) (fun r3 s4 => zb r3 (some (r3, s4))) = some (r, τ) := by
  rw [M_isWord]
  by_cases c : τ 0 14 = 1
  · by_cases d : τ 0 19 = w
    · exact ⟨1, by rw [if_pos c, if_pos d, bd_s, zb_1]⟩
    · exact ⟨0, by rw [if_pos c, if_neg d, bd_s, zb_0]⟩
  · exact ⟨0, by rw [if_neg c, bd_s, zb_0]⟩
theorem sign_t (w : Int) (τ : Sg) : ∃ r, M_isSign w τ = some (r, τ) := by
  rw [M_isSign]
  by_cases c : τ 0 14 = 3
  · by_cases d : τ 0 17 = w
    · exact ⟨1, by rw [if_pos c, if_pos d]⟩
    · exact ⟨0, by rw [if_pos c, if_neg d]⟩
  · exact ⟨0, by rw [if_neg c]⟩
theorem grows_t (τ : Sg) : ∃ r, M_isGrows τ = some (r, τ) := by rw [M_isGrows, sw_grows, bd_s]; exact isW_z τ
theorem grey_t (τ : Sg) : ∃ r, M_isGrey τ = some (r, τ) := by rw [M_isGrey, sw_grey, bd_s]; exact isW_z τ
theorem temper_t (τ : Sg) : ∃ r, M_isTemper τ = some (r, τ) := by rw [M_isTemper, sw_temper, bd_s]; exact isW_z τ
theorem barber_t (τ : Sg) : ∃ r, M_isBarber τ = some (r, τ) := by rw [M_isBarber, sw_barber, bd_s]; exact isW_z τ
theorem keeps_t (τ : Sg) : ∃ r, M_isKeeps τ = some (r, τ) := by rw [M_isKeeps, sw_keeps, bd_s]; exact isW_z τ
theorem every_t (τ : Sg) : ∃ r, M_isEvery τ = some (r, τ) := by rw [M_isEvery, sw_every, bd_s]; exact isW_z τ
theorem to_t (τ : Sg) : ∃ r, M_isTo τ = some (r, τ) := by rw [M_isTo, sw_to, bd_s]; exact isW_z τ
theorem by_t (τ : Sg) : ∃ r, M_isBy τ = some (r, τ) := by rw [M_isBy, sw_by, bd_s]; exact isW_z τ
theorem end_t (τ : Sg) : ∃ r, M_isEnd τ = some (r, τ) := by rw [M_isEnd, sw_end, bd_s]; exact isW_z τ
end
section
variable {n R j k v p : Nat} {B : Nat → Int} {b : Nat → Nat} {σ τ : Sg}
theorem CU.num (h : CU n R B b j k v p σ τ) {x y : Int} (hx : 0 ≤ x) (hy : y ≤ 9999) :
    (∃ (σ' τ' : Sg) (r : Nat), x ≤ r ∧ (r : Int) ≤ y ∧ To_takeNumber x y σ = some ((r : Int), σ') ∧ M_count x y τ = some ((r : Int), τ') ∧ AD n R B b j σ τ σ' τ') ∨
    (∃ σ' τ', To_takeNumber x y σ = some (-1, σ') ∧ M_count x y τ = some (0, τ') ∧ FT σ τ σ' τ') := by
  obtain ⟨q1, q2⟩ := h.td.num
  by_cases c : k = 5
  · obtain ⟨σ', τ', k', v', p', t1, t2, t3, t4, t5, t6, t7⟩ := h.take (by omega)
    obtain ⟨q3, q4⟩ := q2 c
    by_cases d : x ≤ (v : Int) ∧ (v : Int) ≤ y
    · refine .inl ⟨σ', τ', v, d.1, d.2, ?_, ?_, ⟨k', v', p', t3⟩, t4, t5⟩
      · rw [To_takeNumber, h.kd, if_pos (by omega), t1, bd_s, t7, if_neg (by omega), if_neg (by omega), w32_i (by omega) (by omega)]
      · rw [M_count, if_pos h.ok, if_pos (q1.1 c), M_count_J19, if_pos h.ok, q3, isIn_m, bd_s, if_pos d, if_neg i10, M_count_J50, h.ok, if_neg (by omega), nm_k, t2, bd_s, q3]
    · refine .inr ⟨fh σ' 4 p, fm τ 4 p, ?_, ?_, fl_2 _ _ _ (by omega), t4.tr (fl_h _ _ _), fl_m _ _ _⟩
      · rw [To_takeNumber, h.kd, if_pos (by omega), t1, bd_s, t7]
        by_cases e : (v : Int) < x
        · rw [if_pos e, rej_h t6, bd_s]
        · rw [if_neg e, if_pos (by omega), rej_h t6, bd_s]
      · rw [M_count, if_pos h.ok, if_pos (q1.1 c), M_count_J19, if_pos h.ok, q3, isIn_m, bd_s, if_neg d, if_pos rfl, h.ap, fail_m h.ok, bd_s, M_count_J50, fm_12, if_pos (by omega)]
  · obtain ⟨f, f1, f2, f3⟩ := h.mis
    refine .inr ⟨fh σ f p, fm τ f p, ?_, ?_, fl_2 _ _ _ f1, fl_h _ _ _, fl_m _ _ _⟩
    · rw [To_takeNumber, h.kd, if_neg (by omega), f2, bd_s]
    · rw [M_count, if_pos h.ok, if_neg (fun z => c (q1.2 z)), f3, bd_s, c19_b (by rw [fm_12]; exact f1)]
theorem CU.key (h : CU n R B b j k v p σ τ) (q : Nat) :
    (k = 2 ∧ v = q ∧ ∃ σ' τ', To_takeKey q σ = some (1, σ') ∧ M_must (if k = 2 ∧ v = q then 1 else 0) τ = some (0, τ') ∧ AD n R B b j σ τ σ' τ') ∨
    (∃ σ' τ', To_takeKey q σ = some (0, σ') ∧ M_must (if k = 2 ∧ v = q then 1 else 0) τ = some (0, τ') ∧ FT σ τ σ' τ') := by
  by_cases c : k = 2 ∧ v = q
  · obtain ⟨σ', τ', k', v', p', t1, t2, t3, t4, t5, t6, t7⟩ := h.take (by omega)
    refine .inl ⟨c.1, c.2, σ', τ', ?_, ?_, ⟨k', v', p', t3⟩, t4, t5⟩
    · rw [To_takeKey, h.kd, if_pos (by omega), h.vl, if_pos (by omega), t1, bd_s]
    · rw [M_must, h.ok, if_neg (by omega), if_pos c, if_neg i10, t2, bd_s]
  · obtain ⟨f, f1, f2, f3⟩ := h.mis
    refine .inr ⟨fh σ f p, fm τ f p, ?_, ?_, fl_2 _ _ _ f1, fl_h _ _ _, fl_m _ _ _⟩
    · rw [To_takeKey, h.kd, h.vl]
      by_cases d : k = 2
      · rw [if_pos (by omega), if_neg (by omega), f2, bd_s, zb_0]
      · rw [if_neg (by omega), f2, bd_s, zb_0]
    · rw [M_must, h.ok, if_neg (by omega), if_neg c, if_pos rfl, f3, bd_s]
theorem CU.cls (h : CU n R B b j k v p σ τ) :
    (∃ σ' τ', To_takeClosing σ = some (1, σ') ∧ M_must (if k = 6 ∧ (v : Int) = 59 then 1 else 0) τ = some (0, τ') ∧ AD n R B b j σ τ σ' τ') ∨
    (∃ σ' τ', To_takeClosing σ = some (0, σ') ∧ M_must (if k = 6 ∧ (v : Int) = 59 then 1 else 0) τ = some (0, τ') ∧ FT σ τ σ' τ') := by
  by_cases c : k = 6 ∧ (v : Int) = 59
  · obtain ⟨σ', τ', k', v', p', t1, t2, t3, t4, t5, t6, t7⟩ := h.take (by omega)
    refine .inl ⟨σ', τ', ?_, ?_, ⟨k', v', p', t3⟩, t4, t5⟩
    · rw [To_takeClosing, h.kd, if_pos (by omega), h.vl, if_pos (by omega), t1, bd_s]
    · rw [M_must, h.ok, if_neg (by omega), if_pos c, if_neg i10, t2, bd_s]
  · obtain ⟨f, f1, f2, f3⟩ := h.mis
    refine .inr ⟨fh σ f p, fm τ f p, ?_, ?_, fl_2 _ _ _ f1, fl_h _ _ _, fl_m _ _ _⟩
    · rw [To_takeClosing, h.kd, h.vl]
      by_cases d : k = 6
      · rw [if_pos (by omega), if_neg (by omega), f2, bd_s, zb_0]
      · rw [if_neg (by omega), f2, bd_s, zb_0]
    · rw [M_must, h.ok, if_neg (by omega), if_neg c, if_pos rfl, f3, bd_s]
/-- a number behind letters that may stand there -/
def MPK (c x y w : Int) (τ : Sg) (K : Int → Sg → Rs) : Rs := bd (M_perhaps c τ) (fun r5 s6 => if r5 = 0 then K w s6 else bd (M_count x y s6) (fun r s => K r s))
theorem CU.perh (h : CU n R B b j k v p σ τ) (q : Nat) {x y w : Int} (hx : 0 ≤ x) (hy : y ≤ 9999) (hw : x ≤ w ∧ w ≤ y) :
    (∃ (σ' τ' : Sg) (r : Int) (j' k' v' p' : Nat), j ≤ j' ∧ x ≤ r ∧ r ≤ y ∧ PR_takePerhaps q x y w σ = some (r, σ') ∧ (∀ K, MPK (if k = 2 ∧ v = q then 1 else 0) x y w τ K = K r τ') ∧ CU n R B b j' k' v' p' σ' τ' ∧ T5 σ σ' ∧ T0 τ τ') ∨
    (∃ σ' τ', PR_takePerhaps q x y w σ = some (-1, σ') ∧ (∀ K, MPK (if k = 2 ∧ v = q then 1 else 0) x y w τ K = K 0 τ') ∧ FT σ τ σ' τ') := by
  by_cases c : k = 2 ∧ v = q
  · obtain ⟨σ1, τ1, k', v', p', t1, t2, t3, t4, t5, t6, t7⟩ := h.take (by omega)
    have e1 : ∀ K, MPK (if k = 2 ∧ v = q then 1 else 0) x y w τ K = bd (M_count x y τ1) (fun r s => K r s) := fun K => by
      rw [MPK, M_perhaps, h.ok, if_neg (by omega), if_pos c, if_neg i10, t2, bd_s, bd_s, if_neg i10]
    have e2 : PR_takePerhaps q x y w σ = bd (To_takeNumber x y σ1) (fun r5 s6 => some (r5, s6)) := by
      rw [PR_takePerhaps, h.kn, bd_s, if_pos c.1, if_pos (by omega), t1, bd_s]
    rcases t3.num (x := x) (y := y) hx hy with ⟨σ', τ', r, a1, a2, a3, a4, ⟨k'', v'', p'', a5⟩, a6, a7⟩ | ⟨σ', τ', a1, a2, a3, a4, a5⟩
    · exact .inl ⟨σ', τ', r, j + 1 + 1, k'', v'', p'', by omega, a1, a2, by rw [e2, a3, bd_s], fun K => by rw [e1, a4, bd_s], a5, t4.tr a6, t5.tr a7⟩
    · exact .inr ⟨σ', τ', by rw [e2, a1, bd_s], fun K => by rw [e1, a2, bd_s], a3, t4.tr a4, t5.tr a5⟩
  · refine .inl ⟨σ, τ, w, j, k, v, p, by omega, hw.1, hw.2, ?_, fun K => ?_, h, T5.rf, T0.rf⟩
    · have e : ¬ (if k = 2 then (v : Int) else -1) = q := by split <;> omega
      rw [PR_takePerhaps, h.kn, bd_s, if_neg e]
    · rw [MPK, M_perhaps, h.ok, if_neg (by omega), if_neg c, if_pos rfl, bd_s, if_pos rfl]
end
