/-! a province of the class against the block of the reference -/
def bsum (c : Nat → Int) : Nat → Int
  | 0 => 0
  | i + 1 => or32 (bsum c i) (if c (31 + i) = 1 then sl32 1 i else 0)
def hsum (c : Nat → Int) (k : Int) : Nat → Int
  | 0 => 0
  | h + 1 => or32 (hsum c k h) (if c (163 + h) = k then sl32 1 (c (169 + h)) else if c (169 + h) = k then sl32 1 (c (163 + h)) else 0)
theorem bsum_c {c c' : Nat → Int} : ∀ {n : Nat}, (∀ i, i < n → c' (31 + i) = c (31 + i)) → bsum c' n = bsum c n
  | 0, _ => rfl
  | n + 1, h => by rw [bsum, bsum, bsum_c (fun i hi => h i (by omega)), h n (by omega)]
theorem hsum_c {c c' : Nat → Int} {k : Int} : ∀ {n : Nat}, (∀ i, i < n → c' (163 + i) = c (163 + i)) → (∀ i, i < n → c' (169 + i) = c (169 + i)) → hsum c' k n = hsum c k n
  | 0, _, _ => rfl
  | n + 1, h, h' => by rw [hsum, hsum, hsum_c (fun i hi => h i (by omega)) (fun i hi => h' i (by omega)), h n (by omega), h' n (by omega)]
def PS (p : Nat) (σ τ : Sg) (W N D E : Nat) : Prop := (W ≤ 8) ∧ (N ≤ 6) ∧ (D ≤ 6) ∧ (E ≤ 6) ∧ (σ p 10 = W) ∧ (τ 5 0 = W) ∧ (σ p 11 = N) ∧ (τ 5 1 = N) ∧ (σ p 12 = D) ∧ (τ 5 2 = D) ∧ (σ p 13 = E) ∧ (τ 5 3 = E) ∧ (σ p 14 = τ 5 4) ∧ (0 ≤ τ 5 4 ∧ τ 5 4 ≤ 99) ∧ (σ p 15 = τ 5 5) ∧ (0 ≤ τ 5 5 ∧ τ 5 5 ≤ 16) ∧ (σ p 17 = bsum (τ 5) N) ∧ (∀ i, i < N → τ 5 (31 + i) = 0 ∨ τ 5 (31 + i) = 1) ∧ (∀ k, k < W → σ (p + 2) k = τ 5 (9 + k)) ∧ (∀ k, k < W → 1 ≤ τ 5 (9 + k) ∧ τ 5 (9 + k) ≤ 9) ∧ (∀ k, k < W → σ (p + 3) k = τ 5 (17 + k)) ∧ (∀ k, k < W → 1 ≤ τ 5 (17 + k) ∧ τ 5 (17 + k) ≤ 99) ∧ (∀ k, k < W → σ (p + 4) k = hsum (τ 5) k E) ∧ (∀ i, i < N → σ (p + 5) i = τ 5 (25 + i)) ∧ (∀ i, i < N → 0 ≤ τ 5 (25 + i) ∧ τ 5 (25 + i) ≤ 999) ∧ (∀ d, d < D → σ (p + 10) (3 * d) = τ 5 (145 + d)) ∧ (∀ d, d < D → 0 ≤ τ 5 (145 + d) ∧ τ 5 (145 + d) < N) ∧ (∀ d, d < D → σ (p + 10) (3 * d + 1) = τ 5 (151 + d)) ∧ (∀ d, d < D → 0 ≤ τ 5 (151 + d) ∧ τ 5 (151 + d) < N) ∧ (∀ d, d < D → σ (p + 10) (3 * d + 2) = τ 5 (157 + d)) ∧ (∀ d, d < D → 1 ≤ τ 5 (157 + d) ∧ τ 5 (157 + d) ≤ 30) ∧ (∀ d, d < D → τ 5 (145 + d) ≠ τ 5 (151 + d)) ∧ (∀ h, h < E → 0 ≤ τ 5 (163 + h) ∧ τ 5 (163 + h) < W) ∧ (∀ h, h < E → 0 ≤ τ 5 (169 + h) ∧ τ 5 (169 + h) < W) ∧ (∀ h, h < E → τ 5 (163 + h) ≠ τ 5 (169 + h))
theorem PS.mk {p : Nat} {σ τ : Sg} {W N D E : Nat} (hbW : W ≤ 8) (hbN : N ≤ 6) (hbD : D ≤ 6) (hbE : E ≤ 6) (hw : σ p 10 = W) (hw' : τ 5 0 = W) (hn : σ p 11 = N) (hn' : τ 5 1 = N) (hd : σ p 12 = D) (hd' : τ 5 2 = D) (he : σ p 13 = E) (he' : τ 5 3 = E) (hhd : σ p 14 = τ 5 4) (hhdb : 0 ≤ τ 5 4 ∧ τ 5 4 ≤ 99) (hod : σ p 15 = τ 5 5) (hodb : 0 ≤ τ 5 5 ∧ τ 5 5 ≤ 16) (hba : σ p 17 = bsum (τ 5) N) (hbab : ∀ i, i < N → τ 5 (31 + i) = 0 ∨ τ 5 (31 + i) = 1) (hgr : ∀ k, k < W → σ (p + 2) k = τ 5 (9 + k)) (hgrb : ∀ k, k < W → 1 ≤ τ 5 (9 + k) ∧ τ 5 (9 + k) ≤ 9) (hgy : ∀ k, k < W → σ (p + 3) k = τ 5 (17 + k)) (hgyb : ∀ k, k < W → 1 ≤ τ 5 (17 + k) ∧ τ 5 (17 + k) ≤ 99) (hoh : ∀ k, k < W → σ (p + 4) k = hsum (τ 5) k E) (htp : ∀ i, i < N → σ (p + 5) i = τ 5 (25 + i)) (htpb : ∀ i, i < N → 0 ≤ τ 5 (25 + i) ∧ τ 5 (25 + i) ≤ 999) (hd1 : ∀ d, d < D → σ (p + 10) (3 * d) = τ 5 (145 + d)) (hd1b : ∀ d, d < D → 0 ≤ τ 5 (145 + d) ∧ τ 5 (145 + d) < N) (hd2 : ∀ d, d < D → σ (p + 10) (3 * d + 1) = τ 5 (151 + d)) (hd2b : ∀ d, d < D → 0 ≤ τ 5 (151 + d) ∧ τ 5 (151 + d) < N) (hd3 : ∀ d, d < D → σ (p + 10) (3 * d + 2) = τ 5 (157 + d)) (hd3b : ∀ d, d < D → 1 ≤ τ 5 (157 + d) ∧ τ 5 (157 + d) ≤ 30) (hd12 : ∀ d, d < D → τ 5 (145 + d) ≠ τ 5 (151 + d)) (hh1b : ∀ h, h < E → 0 ≤ τ 5 (163 + h) ∧ τ 5 (163 + h) < W) (hh2b : ∀ h, h < E → 0 ≤ τ 5 (169 + h) ∧ τ 5 (169 + h) < W) (hh12 : ∀ h, h < E → τ 5 (163 + h) ≠ τ 5 (169 + h)) : PS p σ τ W N D E := ⟨hbW, hbN, hbD, hbE, hw, hw', hn, hn', hd, hd', he, he', hhd, hhdb, hod, hodb, hba, hbab, hgr, hgrb, hgy, hgyb, hoh, htp, htpb, hd1, hd1b, hd2, hd2b, hd3, hd3b, hd12, hh1b, hh2b, hh12⟩
theorem PS.bW {p : Nat} {σ τ : Sg} {W N D E : Nat} (h : PS p σ τ W N D E) : W ≤ 8 := h.1
theorem PS.bN {p : Nat} {σ τ : Sg} {W N D E : Nat} (h : PS p σ τ W N D E) : N ≤ 6 := h.2.1
theorem PS.bD {p : Nat} {σ τ : Sg} {W N D E : Nat} (h : PS p σ τ W N D E) : D ≤ 6 := h.2.2.1
theorem PS.bE {p : Nat} {σ τ : Sg} {W N D E : Nat} (h : PS p σ τ W N D E) : E ≤ 6 := h.2.2.2.1
theorem PS.w {p : Nat} {σ τ : Sg} {W N D E : Nat} (h : PS p σ τ W N D E) : σ p 10 = W := h.2.2.2.2.1
theorem PS.w' {p : Nat} {σ τ : Sg} {W N D E : Nat} (h : PS p σ τ W N D E) : τ 5 0 = W := h.2.2.2.2.2.1
theorem PS.n {p : Nat} {σ τ : Sg} {W N D E : Nat} (h : PS p σ τ W N D E) : σ p 11 = N := h.2.2.2.2.2.2.1
theorem PS.n' {p : Nat} {σ τ : Sg} {W N D E : Nat} (h : PS p σ τ W N D E) : τ 5 1 = N := h.2.2.2.2.2.2.2.1
theorem PS.d {p : Nat} {σ τ : Sg} {W N D E : Nat} (h : PS p σ τ W N D E) : σ p 12 = D := h.2.2.2.2.2.2.2.2.1
theorem PS.d' {p : Nat} {σ τ : Sg} {W N D E : Nat} (h : PS p σ τ W N D E) : τ 5 2 = D := h.2.2.2.2.2.2.2.2.2.1
theorem PS.e {p : Nat} {σ τ : Sg} {W N D E : Nat} (h : PS p σ τ W N D E) : σ p 13 = E := h.2.2.2.2.2.2.2.2.2.2.1
theorem PS.e' {p : Nat} {σ τ : Sg} {W N D E : Nat} (h : PS p σ τ W N D E) : τ 5 3 = E := h.2.2.2.2.2.2.2.2.2.2.2.1
theorem PS.hd {p : Nat} {σ τ : Sg} {W N D E : Nat} (h : PS p σ τ W N D E) : σ p 14 = τ 5 4 := h.2.2.2.2.2.2.2.2.2.2.2.2.1
theorem PS.hdb {p : Nat} {σ τ : Sg} {W N D E : Nat} (h : PS p σ τ W N D E) : 0 ≤ τ 5 4 ∧ τ 5 4 ≤ 99 := h.2.2.2.2.2.2.2.2.2.2.2.2.2.1
theorem PS.od {p : Nat} {σ τ : Sg} {W N D E : Nat} (h : PS p σ τ W N D E) : σ p 15 = τ 5 5 := h.2.2.2.2.2.2.2.2.2.2.2.2.2.2.1
theorem PS.odb {p : Nat} {σ τ : Sg} {W N D E : Nat} (h : PS p σ τ W N D E) : 0 ≤ τ 5 5 ∧ τ 5 5 ≤ 16 := h.2.2.2.2.2.2.2.2.2.2.2.2.2.2.2.1
theorem PS.ba {p : Nat} {σ τ : Sg} {W N D E : Nat} (h : PS p σ τ W N D E) : σ p 17 = bsum (τ 5) N := h.2.2.2.2.2.2.2.2.2.2.2.2.2.2.2.2.1
theorem PS.bab {p : Nat} {σ τ : Sg} {W N D E : Nat} (h : PS p σ τ W N D E) : ∀ i, i < N → τ 5 (31 + i) = 0 ∨ τ 5 (31 + i) = 1 := h.2.2.2.2.2.2.2.2.2.2.2.2.2.2.2.2.2.1
theorem PS.gr {p : Nat} {σ τ : Sg} {W N D E : Nat} (h : PS p σ τ W N D E) : ∀ k, k < W → σ (p + 2) k = τ 5 (9 + k) := h.2.2.2.2.2.2.2.2.2.2.2.2.2.2.2.2.2.2.1
theorem PS.grb {p : Nat} {σ τ : Sg} {W N D E : Nat} (h : PS p σ τ W N D E) : ∀ k, k < W → 1 ≤ τ 5 (9 + k) ∧ τ 5 (9 + k) ≤ 9 := h.2.2.2.2.2.2.2.2.2.2.2.2.2.2.2.2.2.2.2.1
theorem PS.gy {p : Nat} {σ τ : Sg} {W N D E : Nat} (h : PS p σ τ W N D E) : ∀ k, k < W → σ (p + 3) k = τ 5 (17 + k) := h.2.2.2.2.2.2.2.2.2.2.2.2.2.2.2.2.2.2.2.2.1
theorem PS.gyb {p : Nat} {σ τ : Sg} {W N D E : Nat} (h : PS p σ τ W N D E) : ∀ k, k < W → 1 ≤ τ 5 (17 + k) ∧ τ 5 (17 + k) ≤ 99 := h.2.2.2.2.2.2.2.2.2.2.2.2.2.2.2.2.2.2.2.2.2.1
theorem PS.oh {p : Nat} {σ τ : Sg} {W N D E : Nat} (h : PS p σ τ W N D E) : ∀ k, k < W → σ (p + 4) k = hsum (τ 5) k E := h.2.2.2.2.2.2.2.2.2.2.2.2.2.2.2.2.2.2.2.2.2.2.1
theorem PS.tp {p : Nat} {σ τ : Sg} {W N D E : Nat} (h : PS p σ τ W N D E) : ∀ i, i < N → σ (p + 5) i = τ 5 (25 + i) := h.2.2.2.2.2.2.2.2.2.2.2.2.2.2.2.2.2.2.2.2.2.2.2.1
theorem PS.tpb {p : Nat} {σ τ : Sg} {W N D E : Nat} (h : PS p σ τ W N D E) : ∀ i, i < N → 0 ≤ τ 5 (25 + i) ∧ τ 5 (25 + i) ≤ 999 := h.2.2.2.2.2.2.2.2.2.2.2.2.2.2.2.2.2.2.2.2.2.2.2.2.1
theorem PS.d1 {p : Nat} {σ τ : Sg} {W N D E : Nat} (h : PS p σ τ W N D E) : ∀ d, d < D → σ (p + 10) (3 * d) = τ 5 (145 + d) := h.2.2.2.2.2.2.2.2.2.2.2.2.2.2.2.2.2.2.2.2.2.2.2.2.2.1
theorem PS.d1b {p : Nat} {σ τ : Sg} {W N D E : Nat} (h : PS p σ τ W N D E) : ∀ d, d < D → 0 ≤ τ 5 (145 + d) ∧ τ 5 (145 + d) < N := h.2.2.2.2.2.2.2.2.2.2.2.2.2.2.2.2.2.2.2.2.2.2.2.2.2.2.1
theorem PS.d2 {p : Nat} {σ τ : Sg} {W N D E : Nat} (h : PS p σ τ W N D E) : ∀ d, d < D → σ (p + 10) (3 * d + 1) = τ 5 (151 + d) := h.2.2.2.2.2.2.2.2.2.2.2.2.2.2.2.2.2.2.2.2.2.2.2.2.2.2.2.1
theorem PS.d2b {p : Nat} {σ τ : Sg} {W N D E : Nat} (h : PS p σ τ W N D E) : ∀ d, d < D → 0 ≤ τ 5 (151 + d) ∧ τ 5 (151 + d) < N := h.2.2.2.2.2.2.2.2.2.2.2.2.2.2.2.2.2.2.2.2.2.2.2.2.2.2.2.2.1
theorem PS.d3 {p : Nat} {σ τ : Sg} {W N D E : Nat} (h : PS p σ τ W N D E) : ∀ d, d < D → σ (p + 10) (3 * d + 2) = τ 5 (157 + d) := h.2.2.2.2.2.2.2.2.2.2.2.2.2.2.2.2.2.2.2.2.2.2.2.2.2.2.2.2.2.1
theorem PS.d3b {p : Nat} {σ τ : Sg} {W N D E : Nat} (h : PS p σ τ W N D E) : ∀ d, d < D → 1 ≤ τ 5 (157 + d) ∧ τ 5 (157 + d) ≤ 30 := h.2.2.2.2.2.2.2.2.2.2.2.2.2.2.2.2.2.2.2.2.2.2.2.2.2.2.2.2.2.2.1
theorem PS.d12 {p : Nat} {σ τ : Sg} {W N D E : Nat} (h : PS p σ τ W N D E) : ∀ d, d < D → τ 5 (145 + d) ≠ τ 5 (151 + d) := h.2.2.2.2.2.2.2.2.2.2.2.2.2.2.2.2.2.2.2.2.2.2.2.2.2.2.2.2.2.2.2.1
theorem PS.h1b {p : Nat} {σ τ : Sg} {W N D E : Nat} (h : PS p σ τ W N D E) : ∀ h, h < E → 0 ≤ τ 5 (163 + h) ∧ τ 5 (163 + h) < W := h.2.2.2.2.2.2.2.2.2.2.2.2.2.2.2.2.2.2.2.2.2.2.2.2.2.2.2.2.2.2.2.2.1
theorem PS.h2b {p : Nat} {σ τ : Sg} {W N D E : Nat} (h : PS p σ τ W N D E) : ∀ h, h < E → 0 ≤ τ 5 (169 + h) ∧ τ 5 (169 + h) < W := h.2.2.2.2.2.2.2.2.2.2.2.2.2.2.2.2.2.2.2.2.2.2.2.2.2.2.2.2.2.2.2.2.2.1
theorem PS.h12 {p : Nat} {σ τ : Sg} {W N D E : Nat} (h : PS p σ τ W N D E) : ∀ h, h < E → τ 5 (163 + h) ≠ τ 5 (169 + h) := h.2.2.2.2.2.2.2.2.2.2.2.2.2.2.2.2.2.2.2.2.2.2.2.2.2.2.2.2.2.2.2.2.2.2
/-- how long a strand is on day d that began on day b and was 0 long last on day s -/
def lnF (g y d b s : Int) : Int := if s < (if d < b + y then d else b + y) then g * ((if d < b + y then d else b + y) - s) else 0
/-- a strand of the class by its days is that of the reference by its age and its length -/
def SA (σ τ : Sg) (p i k : Nat) : Prop := (0 ≤ σ (p + 8) (i * 8 + k) ∧ σ (p + 8) (i * 8 + k) ≤ σ (p + 9) (i * 8 + k) ∧ σ (p + 9) (i * 8 + k) ≤ τ 5 6) ∧ τ 5 (97 + (8 * i + k)) = min (τ 5 6 - σ (p + 8) (i * 8 + k)) 999 ∧
  τ 5 (49 + (8 * i + k)) = lnF (τ 5 (9 + k)) (τ 5 (17 + k)) (τ 5 6) (σ (p + 8) (i * 8 + k)) (σ (p + 9) (i * 8 + k))
def PD (p : Nat) (σ τ : Sg) (W N : Nat) : Prop := (σ p 16 = τ 5 6) ∧ (0 ≤ τ 5 6 ∧ τ 5 6 ≤ 100000) ∧ (σ p 18 = τ 5 7) ∧ (c32 (τ 5 7)) ∧ (σ p 19 = τ 5 8) ∧ (c32 (τ 5 8)) ∧ (∀ i, i < N → σ (p + 6) i = τ 5 (37 + i)) ∧ (∀ i, i < N → 0 ≤ τ 5 (37 + i) ∧ τ 5 (37 + i) < 2 ^ W) ∧ (∀ i, i < N → σ (p + 7) i = τ 5 (43 + i)) ∧ (∀ i, i < N → 0 ≤ τ 5 (43 + i) ∧ τ 5 (43 + i) < 2 ^ W) ∧ (∀ i k : Nat, i < N → k < W → an32 (sr32 (τ 5 (43 + i)) k) 1 = 1 → SA σ τ p i k) ∧ (∀ i k, i < N → k < 8 → 0 ≤ τ 5 (49 + (8 * i + k)) ∧ τ 5 (49 + (8 * i + k)) ≤ 9 * τ 5 (97 + (8 * i + k)) ∧ τ 5 (49 + (8 * i + k)) ≤ 891) ∧ (∀ i k, i < N → k < 8 → 0 ≤ τ 5 (97 + (8 * i + k)) ∧ τ 5 (97 + (8 * i + k)) ≤ 999)
theorem PD.mk {p : Nat} {σ τ : Sg} {W N : Nat} (hdt : σ p 16 = τ 5 6) (hdtb : 0 ≤ τ 5 6 ∧ τ 5 6 ≤ 100000) (hsd : σ p 18 = τ 5 7) (hsdb : c32 (τ 5 7)) (hct : σ p 19 = τ 5 8) (hctb : c32 (τ 5 8)) (hkn : ∀ i, i < N → σ (p + 6) i = τ 5 (37 + i)) (hknb : ∀ i, i < N → 0 ≤ τ 5 (37 + i) ∧ τ 5 (37 + i) < 2 ^ W) (hkp : ∀ i, i < N → σ (p + 7) i = τ 5 (43 + i)) (hkpb : ∀ i, i < N → 0 ≤ τ 5 (43 + i) ∧ τ 5 (43 + i) < 2 ^ W) (hst : ∀ i k : Nat, i < N → k < W → an32 (sr32 (τ 5 (43 + i)) k) 1 = 1 → SA σ τ p i k) (hlnb : ∀ i k, i < N → k < 8 → 0 ≤ τ 5 (49 + (8 * i + k)) ∧ τ 5 (49 + (8 * i + k)) ≤ 9 * τ 5 (97 + (8 * i + k)) ∧ τ 5 (49 + (8 * i + k)) ≤ 891) (hagb : ∀ i k, i < N → k < 8 → 0 ≤ τ 5 (97 + (8 * i + k)) ∧ τ 5 (97 + (8 * i + k)) ≤ 999) : PD p σ τ W N := ⟨hdt, hdtb, hsd, hsdb, hct, hctb, hkn, hknb, hkp, hkpb, hst, hlnb, hagb⟩
theorem PD.dt {p : Nat} {σ τ : Sg} {W N : Nat} (h : PD p σ τ W N) : σ p 16 = τ 5 6 := h.1
theorem PD.dtb {p : Nat} {σ τ : Sg} {W N : Nat} (h : PD p σ τ W N) : 0 ≤ τ 5 6 ∧ τ 5 6 ≤ 100000 := h.2.1
theorem PD.sd {p : Nat} {σ τ : Sg} {W N : Nat} (h : PD p σ τ W N) : σ p 18 = τ 5 7 := h.2.2.1
theorem PD.sdb {p : Nat} {σ τ : Sg} {W N : Nat} (h : PD p σ τ W N) : c32 (τ 5 7) := h.2.2.2.1
theorem PD.ct {p : Nat} {σ τ : Sg} {W N : Nat} (h : PD p σ τ W N) : σ p 19 = τ 5 8 := h.2.2.2.2.1
theorem PD.ctb {p : Nat} {σ τ : Sg} {W N : Nat} (h : PD p σ τ W N) : c32 (τ 5 8) := h.2.2.2.2.2.1
theorem PD.kn {p : Nat} {σ τ : Sg} {W N : Nat} (h : PD p σ τ W N) : ∀ i, i < N → σ (p + 6) i = τ 5 (37 + i) := h.2.2.2.2.2.2.1
theorem PD.knb {p : Nat} {σ τ : Sg} {W N : Nat} (h : PD p σ τ W N) : ∀ i, i < N → 0 ≤ τ 5 (37 + i) ∧ τ 5 (37 + i) < 2 ^ W := h.2.2.2.2.2.2.2.1
theorem PD.kp {p : Nat} {σ τ : Sg} {W N : Nat} (h : PD p σ τ W N) : ∀ i, i < N → σ (p + 7) i = τ 5 (43 + i) := h.2.2.2.2.2.2.2.2.1
theorem PD.kpb {p : Nat} {σ τ : Sg} {W N : Nat} (h : PD p σ τ W N) : ∀ i, i < N → 0 ≤ τ 5 (43 + i) ∧ τ 5 (43 + i) < 2 ^ W := h.2.2.2.2.2.2.2.2.2.1
theorem PD.st {p : Nat} {σ τ : Sg} {W N : Nat} (h : PD p σ τ W N) : ∀ i k : Nat, i < N → k < W → an32 (sr32 (τ 5 (43 + i)) k) 1 = 1 → SA σ τ p i k := h.2.2.2.2.2.2.2.2.2.2.1
theorem PD.lnb {p : Nat} {σ τ : Sg} {W N : Nat} (h : PD p σ τ W N) : ∀ i k, i < N → k < 8 → 0 ≤ τ 5 (49 + (8 * i + k)) ∧ τ 5 (49 + (8 * i + k)) ≤ 9 * τ 5 (97 + (8 * i + k)) ∧ τ 5 (49 + (8 * i + k)) ≤ 891 := h.2.2.2.2.2.2.2.2.2.2.2.1
theorem PD.agb {p : Nat} {σ τ : Sg} {W N : Nat} (h : PD p σ τ W N) : ∀ i k, i < N → k < 8 → 0 ≤ τ 5 (97 + (8 * i + k)) ∧ τ 5 (97 + (8 * i + k)) ≤ 999 := h.2.2.2.2.2.2.2.2.2.2.2.2
def PR (p : Nat) (σ τ : Sg) (W N D E : Nat) : Prop := (PS p σ τ W N D E) ∧ (PD p σ τ W N)
theorem PR.mk {p : Nat} {σ τ : Sg} {W N D E : Nat} (h0 : PS p σ τ W N D E) (h1 : PD p σ τ W N) : PR p σ τ W N D E := ⟨h0, h1⟩
theorem PR.toPS {p : Nat} {σ τ : Sg} {W N D E : Nat} (h : PR p σ τ W N D E) : PS p σ τ W N D E := h.1
theorem PR.bW {p : Nat} {σ τ : Sg} {W N D E : Nat} (h : PR p σ τ W N D E) : W ≤ 8 := h.toPS.bW
theorem PR.bN {p : Nat} {σ τ : Sg} {W N D E : Nat} (h : PR p σ τ W N D E) : N ≤ 6 := h.toPS.bN
theorem PR.bD {p : Nat} {σ τ : Sg} {W N D E : Nat} (h : PR p σ τ W N D E) : D ≤ 6 := h.toPS.bD
theorem PR.bE {p : Nat} {σ τ : Sg} {W N D E : Nat} (h : PR p σ τ W N D E) : E ≤ 6 := h.toPS.bE
theorem PR.w {p : Nat} {σ τ : Sg} {W N D E : Nat} (h : PR p σ τ W N D E) : σ p 10 = W := h.toPS.w
theorem PR.w' {p : Nat} {σ τ : Sg} {W N D E : Nat} (h : PR p σ τ W N D E) : τ 5 0 = W := h.toPS.w'
theorem PR.n {p : Nat} {σ τ : Sg} {W N D E : Nat} (h : PR p σ τ W N D E) : σ p 11 = N := h.toPS.n
theorem PR.n' {p : Nat} {σ τ : Sg} {W N D E : Nat} (h : PR p σ τ W N D E) : τ 5 1 = N := h.toPS.n'
theorem PR.d {p : Nat} {σ τ : Sg} {W N D E : Nat} (h : PR p σ τ W N D E) : σ p 12 = D := h.toPS.d
theorem PR.d' {p : Nat} {σ τ : Sg} {W N D E : Nat} (h : PR p σ τ W N D E) : τ 5 2 = D := h.toPS.d'
theorem PR.e {p : Nat} {σ τ : Sg} {W N D E : Nat} (h : PR p σ τ W N D E) : σ p 13 = E := h.toPS.e
theorem PR.e' {p : Nat} {σ τ : Sg} {W N D E : Nat} (h : PR p σ τ W N D E) : τ 5 3 = E := h.toPS.e'
theorem PR.hd {p : Nat} {σ τ : Sg} {W N D E : Nat} (h : PR p σ τ W N D E) : σ p 14 = τ 5 4 := h.toPS.hd
theorem PR.hdb {p : Nat} {σ τ : Sg} {W N D E : Nat} (h : PR p σ τ W N D E) : 0 ≤ τ 5 4 ∧ τ 5 4 ≤ 99 := h.toPS.hdb
theorem PR.od {p : Nat} {σ τ : Sg} {W N D E : Nat} (h : PR p σ τ W N D E) : σ p 15 = τ 5 5 := h.toPS.od
theorem PR.odb {p : Nat} {σ τ : Sg} {W N D E : Nat} (h : PR p σ τ W N D E) : 0 ≤ τ 5 5 ∧ τ 5 5 ≤ 16 := h.toPS.odb
theorem PR.ba {p : Nat} {σ τ : Sg} {W N D E : Nat} (h : PR p σ τ W N D E) : σ p 17 = bsum (τ 5) N := h.toPS.ba
theorem PR.bab {p : Nat} {σ τ : Sg} {W N D E : Nat} (h : PR p σ τ W N D E) : ∀ i, i < N → τ 5 (31 + i) = 0 ∨ τ 5 (31 + i) = 1 := h.toPS.bab
theorem PR.gr {p : Nat} {σ τ : Sg} {W N D E : Nat} (h : PR p σ τ W N D E) : ∀ k, k < W → σ (p + 2) k = τ 5 (9 + k) := h.toPS.gr
theorem PR.grb {p : Nat} {σ τ : Sg} {W N D E : Nat} (h : PR p σ τ W N D E) : ∀ k, k < W → 1 ≤ τ 5 (9 + k) ∧ τ 5 (9 + k) ≤ 9 := h.toPS.grb
theorem PR.gy {p : Nat} {σ τ : Sg} {W N D E : Nat} (h : PR p σ τ W N D E) : ∀ k, k < W → σ (p + 3) k = τ 5 (17 + k) := h.toPS.gy
theorem PR.gyb {p : Nat} {σ τ : Sg} {W N D E : Nat} (h : PR p σ τ W N D E) : ∀ k, k < W → 1 ≤ τ 5 (17 + k) ∧ τ 5 (17 + k) ≤ 99 := h.toPS.gyb
theorem PR.oh {p : Nat} {σ τ : Sg} {W N D E : Nat} (h : PR p σ τ W N D E) : ∀ k, k < W → σ (p + 4) k = hsum (τ 5) k E := h.toPS.oh
theorem PR.tp {p : Nat} {σ τ : Sg} {W N D E : Nat} (h : PR p σ τ W N D E) : ∀ i, i < N → σ (p + 5) i = τ 5 (25 + i) := h.toPS.tp
theorem PR.tpb {p : Nat} {σ τ : Sg} {W N D E : Nat} (h : PR p σ τ W N D E) : ∀ i, i < N → 0 ≤ τ 5 (25 + i) ∧ τ 5 (25 + i) ≤ 999 := h.toPS.tpb
theorem PR.d1 {p : Nat} {σ τ : Sg} {W N D E : Nat} (h : PR p σ τ W N D E) : ∀ d, d < D → σ (p + 10) (3 * d) = τ 5 (145 + d) := h.toPS.d1
theorem PR.d1b {p : Nat} {σ τ : Sg} {W N D E : Nat} (h : PR p σ τ W N D E) : ∀ d, d < D → 0 ≤ τ 5 (145 + d) ∧ τ 5 (145 + d) < N := h.toPS.d1b
theorem PR.d2 {p : Nat} {σ τ : Sg} {W N D E : Nat} (h : PR p σ τ W N D E) : ∀ d, d < D → σ (p + 10) (3 * d + 1) = τ 5 (151 + d) := h.toPS.d2
theorem PR.d2b {p : Nat} {σ τ : Sg} {W N D E : Nat} (h : PR p σ τ W N D E) : ∀ d, d < D → 0 ≤ τ 5 (151 + d) ∧ τ 5 (151 + d) < N := h.toPS.d2b
theorem PR.d3 {p : Nat} {σ τ : Sg} {W N D E : Nat} (h : PR p σ τ W N D E) : ∀ d, d < D → σ (p + 10) (3 * d + 2) = τ 5 (157 + d) := h.toPS.d3
theorem PR.d3b {p : Nat} {σ τ : Sg} {W N D E : Nat} (h : PR p σ τ W N D E) : ∀ d, d < D → 1 ≤ τ 5 (157 + d) ∧ τ 5 (157 + d) ≤ 30 := h.toPS.d3b
theorem PR.d12 {p : Nat} {σ τ : Sg} {W N D E : Nat} (h : PR p σ τ W N D E) : ∀ d, d < D → τ 5 (145 + d) ≠ τ 5 (151 + d) := h.toPS.d12
theorem PR.h1b {p : Nat} {σ τ : Sg} {W N D E : Nat} (h : PR p σ τ W N D E) : ∀ h, h < E → 0 ≤ τ 5 (163 + h) ∧ τ 5 (163 + h) < W := h.toPS.h1b
theorem PR.h2b {p : Nat} {σ τ : Sg} {W N D E : Nat} (h : PR p σ τ W N D E) : ∀ h, h < E → 0 ≤ τ 5 (169 + h) ∧ τ 5 (169 + h) < W := h.toPS.h2b
theorem PR.h12 {p : Nat} {σ τ : Sg} {W N D E : Nat} (h : PR p σ τ W N D E) : ∀ h, h < E → τ 5 (163 + h) ≠ τ 5 (169 + h) := h.toPS.h12
theorem PR.toPD {p : Nat} {σ τ : Sg} {W N D E : Nat} (h : PR p σ τ W N D E) : PD p σ τ W N := h.2
theorem PR.dt {p : Nat} {σ τ : Sg} {W N D E : Nat} (h : PR p σ τ W N D E) : σ p 16 = τ 5 6 := h.toPD.dt
theorem PR.dtb {p : Nat} {σ τ : Sg} {W N D E : Nat} (h : PR p σ τ W N D E) : 0 ≤ τ 5 6 ∧ τ 5 6 ≤ 100000 := h.toPD.dtb
theorem PR.sd {p : Nat} {σ τ : Sg} {W N D E : Nat} (h : PR p σ τ W N D E) : σ p 18 = τ 5 7 := h.toPD.sd
theorem PR.sdb {p : Nat} {σ τ : Sg} {W N D E : Nat} (h : PR p σ τ W N D E) : c32 (τ 5 7) := h.toPD.sdb
theorem PR.ct {p : Nat} {σ τ : Sg} {W N D E : Nat} (h : PR p σ τ W N D E) : σ p 19 = τ 5 8 := h.toPD.ct
theorem PR.ctb {p : Nat} {σ τ : Sg} {W N D E : Nat} (h : PR p σ τ W N D E) : c32 (τ 5 8) := h.toPD.ctb
theorem PR.kn {p : Nat} {σ τ : Sg} {W N D E : Nat} (h : PR p σ τ W N D E) : ∀ i, i < N → σ (p + 6) i = τ 5 (37 + i) := h.toPD.kn
theorem PR.knb {p : Nat} {σ τ : Sg} {W N D E : Nat} (h : PR p σ τ W N D E) : ∀ i, i < N → 0 ≤ τ 5 (37 + i) ∧ τ 5 (37 + i) < 2 ^ W := h.toPD.knb
theorem PR.kp {p : Nat} {σ τ : Sg} {W N D E : Nat} (h : PR p σ τ W N D E) : ∀ i, i < N → σ (p + 7) i = τ 5 (43 + i) := h.toPD.kp
theorem PR.kpb {p : Nat} {σ τ : Sg} {W N D E : Nat} (h : PR p σ τ W N D E) : ∀ i, i < N → 0 ≤ τ 5 (43 + i) ∧ τ 5 (43 + i) < 2 ^ W := h.toPD.kpb
theorem PR.st {p : Nat} {σ τ : Sg} {W N D E : Nat} (h : PR p σ τ W N D E) : ∀ i k : Nat, i < N → k < W → an32 (sr32 (τ 5 (43 + i)) k) 1 = 1 → SA σ τ p i k := h.toPD.st
theorem PR.lnb {p : Nat} {σ τ : Sg} {W N D E : Nat} (h : PR p σ τ W N D E) : ∀ i k, i < N → k < 8 → 0 ≤ τ 5 (49 + (8 * i + k)) ∧ τ 5 (49 + (8 * i + k)) ≤ 9 * τ 5 (97 + (8 * i + k)) ∧ τ 5 (49 + (8 * i + k)) ≤ 891 := h.toPD.lnb
theorem PR.agb {p : Nat} {σ τ : Sg} {W N D E : Nat} (h : PR p σ τ W N D E) : ∀ i k, i < N → k < 8 → 0 ≤ τ 5 (97 + (8 * i + k)) ∧ τ 5 (97 + (8 * i + k)) ≤ 999 := h.toPD.agb
/-- what the static half speaks of -/
theorem PS.cg {p p' : Nat} {σ τ σ' τ' : Sg} {W N D E : Nat} (h : PS p σ τ W N D E)
    (h0 : ∀ k, 10 ≤ k → k < 18 → k ≠ 16 → σ' p' k = σ p k) (hk : ∀ j k, 2 ≤ j → (j ≤ 5 ∨ j = 10) → σ' (p' + j) k = σ (p + j) k)
    (ht : ∀ k, k < 175 → (k < 6 ∨ 9 ≤ k) → (k < 37 ∨ 145 ≤ k) → τ' 5 k = τ 5 k) : PS p' σ' τ' W N D E := by
  have bW := h.bW
  have bN := h.bN
  have bD := h.bD
  have bE := h.bE
  refine PS.mk h.bW h.bN h.bD h.bE ?_ ?_ ?_ ?_ ?_ ?_ ?_ ?_ ?_ ?_ ?_ ?_ ?_ ?_ ?_ ?_ ?_ ?_ ?_ ?_ ?_ ?_ ?_ ?_ ?_ ?_ ?_ ?_ ?_ ?_ ?_
  · rw [h0 _ (by omega) (by omega) (by omega)]; exact h.w
  · rw [ht _ (by omega) (by omega) (by omega)]; exact h.w'
  · rw [h0 _ (by omega) (by omega) (by omega)]; exact h.n
  · rw [ht _ (by omega) (by omega) (by omega)]; exact h.n'
  · rw [h0 _ (by omega) (by omega) (by omega)]; exact h.d
  · rw [ht _ (by omega) (by omega) (by omega)]; exact h.d'
  · rw [h0 _ (by omega) (by omega) (by omega)]; exact h.e
  · rw [ht _ (by omega) (by omega) (by omega)]; exact h.e'
  · rw [h0 _ (by omega) (by omega) (by omega), ht _ (by omega) (by omega) (by omega)]; exact h.hd
  · rw [ht _ (by omega) (by omega) (by omega)]; exact h.hdb
  · rw [h0 _ (by omega) (by omega) (by omega), ht _ (by omega) (by omega) (by omega)]; exact h.od
  · rw [ht _ (by omega) (by omega) (by omega)]; exact h.odb
  · rw [h0 _ (by omega) (by omega) (by omega), h.ba]
    exact (bsum_c (fun i hi => ht _ (by omega) (by omega) (by omega))).symm
  · intro i hi; rw [ht _ (by omega) (by omega) (by omega)]; exact h.bab i hi
  · intro i hi; rw [hk _ _ (by omega) (by omega), ht _ (by omega) (by omega) (by omega)]; exact h.gr i hi
  · intro i hi; rw [ht _ (by omega) (by omega) (by omega)]; exact h.grb i hi
  · intro i hi; rw [hk _ _ (by omega) (by omega), ht _ (by omega) (by omega) (by omega)]; exact h.gy i hi
  · intro i hi; rw [ht _ (by omega) (by omega) (by omega)]; exact h.gyb i hi
  · intro i hi; rw [hk _ _ (by omega) (by omega), h.oh i hi]
    exact (hsum_c (fun j hj => ht _ (by omega) (by omega) (by omega)) (fun j hj => ht _ (by omega) (by omega) (by omega))).symm
  · intro i hi; rw [hk _ _ (by omega) (by omega), ht _ (by omega) (by omega) (by omega)]; exact h.tp i hi
  · intro i hi; rw [ht _ (by omega) (by omega) (by omega)]; exact h.tpb i hi
  · intro i hi; rw [hk _ _ (by omega) (by omega), ht _ (by omega) (by omega) (by omega)]; exact h.d1 i hi
  · intro i hi; rw [ht _ (by omega) (by omega) (by omega)]; exact h.d1b i hi
  · intro i hi; rw [hk _ _ (by omega) (by omega), ht _ (by omega) (by omega) (by omega)]; exact h.d2 i hi
  · intro i hi; rw [ht _ (by omega) (by omega) (by omega)]; exact h.d2b i hi
  · intro i hi; rw [hk _ _ (by omega) (by omega), ht _ (by omega) (by omega) (by omega)]; exact h.d3 i hi
  · intro i hi; rw [ht _ (by omega) (by omega) (by omega)]; exact h.d3b i hi
  · intro i hi; rw [ht (145 + i) (by omega) (by omega) (by omega), ht (151 + i) (by omega) (by omega) (by omega)]; exact h.d12 i hi
  · intro i hi; rw [ht _ (by omega) (by omega) (by omega)]; exact h.h1b i hi
  · intro i hi; rw [ht _ (by omega) (by omega) (by omega)]; exact h.h2b i hi
  · intro i hi; rw [ht (163 + i) (by omega) (by omega) (by omega), ht (169 + i) (by omega) (by omega) (by omega)]; exact h.h12 i hi
theorem SA.cg {p p' i k : Nat} {σ τ σ' τ' : Sg} (h : SA σ τ p i k) (h1 : ∀ j, (j = 8 ∨ j = 9) → σ' (p' + j) (i * 8 + k) = σ (p + j) (i * 8 + k))
    (h2 : ∀ a, (a = 6 ∨ a = 9 + k ∨ a = 17 + k ∨ a = 49 + (8 * i + k) ∨ a = 97 + (8 * i + k)) → τ' 5 a = τ 5 a) : SA σ' τ' p' i k := by
  unfold SA at h ⊢
  rw [h1 8 (.inl rfl), h1 9 (.inr rfl), h2 6 (.inl rfl), h2 (9 + k) (.inr (.inl rfl)), h2 (17 + k) (.inr (.inr (.inl rfl))), h2 (49 + (8 * i + k)) (.inr (.inr (.inr (.inl rfl)))), h2 (97 + (8 * i + k)) (.inr (.inr (.inr (.inr rfl))))]
  exact h
theorem PD.cg {p p' : Nat} {σ τ σ' τ' : Sg} {W N : Nat} (bW : W ≤ 8) (bN : N ≤ 6) (h : PD p σ τ W N)
    (h0 : ∀ k, (k = 16 ∨ k = 18 ∨ k = 19) → σ' p' k = σ p k) (hk : ∀ j k, 6 ≤ j → j ≤ 9 → σ' (p' + j) k = σ (p + j) k)
    (ht : ∀ k, 6 ≤ k → k < 145 → (k < 25 ∨ 37 ≤ k) → τ' 5 k = τ 5 k) : PD p' σ' τ' W N := by
  refine PD.mk ?_ ?_ ?_ ?_ ?_ ?_ ?_ ?_ ?_ ?_ ?_ ?_ ?_
  · rw [h0 _ (by omega), ht _ (by omega) (by omega) (by omega)]; exact h.dt
  · rw [ht _ (by omega) (by omega) (by omega)]; exact h.dtb
  · rw [h0 _ (by omega), ht _ (by omega) (by omega) (by omega)]; exact h.sd
  · rw [ht _ (by omega) (by omega) (by omega)]; exact h.sdb
  · rw [h0 _ (by omega), ht _ (by omega) (by omega) (by omega)]; exact h.ct
  · rw [ht _ (by omega) (by omega) (by omega)]; exact h.ctb
  · intro i hi; rw [hk _ _ (by omega) (by omega), ht _ (by omega) (by omega) (by omega)]; exact h.kn i hi
  · intro i hi; rw [ht _ (by omega) (by omega) (by omega)]; exact h.knb i hi
  · intro i hi; rw [hk _ _ (by omega) (by omega), ht _ (by omega) (by omega) (by omega)]; exact h.kp i hi
  · intro i hi; rw [ht _ (by omega) (by omega) (by omega)]; exact h.kpb i hi
  · intro i k hi hk' hb
    rw [ht _ (by omega) (by omega) (by omega)] at hb
    exact (h.st i k hi hk' hb).cg (fun j _ => hk _ _ (by omega) (by omega)) (fun a _ => ht _ (by omega) (by omega) (by omega))
  · intro i k hi hk'; rw [ht (49 + _) (by omega) (by omega) (by omega), ht (97 + _) (by omega) (by omega) (by omega)]; exact h.lnb i k hi hk'
  · intro i k hi hk'; rw [ht _ (by omega) (by omega) (by omega)]; exact h.agb i k hi hk'
