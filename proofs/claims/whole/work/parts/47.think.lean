/-! HOURS, ONE BEHIND THE OTHER -/
def hst (b : Bool) (S : M2) (rem : Nat → Int32) : Nat → St
  | 0 => s0 S
  | n + 1 => goV S (hst b S rem n) (rem n) (sayV b S (hst b S rem n) (tmV S) (rem n))
def sdn (b : Bool) (S : M2) (rem : Nat → Int32) (n : Nat) : Int32 := sayV b S (hst b S rem n) (tmV S) (rem n)
def lmn (b : Bool) (S : M2) (rem : Nat → Int32) (n : Nat) : Bool := lmS S (hst b S rem n) (sdn b S rem n)
def mun (b : Bool) (S : M2) (rem : Nat → Int32) (n : Nat) : Int32 := muV S (hst b S rem n) (sdn b S rem n)
/-- the remarks of a shelf -/
def rmS (S : M2) (i : Nat) : Nat → Int32 := fun k => rmV S i (nI k)
def rmZ : Nat → Int32 := fun _ => 0
theorem sdn_lt {b : Bool} {S : M2} {rem : Nat → Int32} {n : Nat} : ix (sdn b S rem n) < 16 := sayV_lt
theorem SB_hst {b : Bool} {S : M2} (hH : HimW S 5) {rem : Nat → Int32} (hr : ∀ k, ix (rem k) < 10) : ∀ n, SB (hst b S rem n)
  | 0 => SB_0 hH
  | n + 1 => SB_go hH (SB_hst hH hr n) sayV_lt (hr n)
theorem rmS_lt (S : M2) (i : Nat) : ∀ k, ix (rmS S i k) < 10 := by
  intro k
  unfold rmS rmV
  cases h : rg (byV S i (nI k)) 10 with
  | true => exact rg_tt h
  | false => exact (by decide : ix (0 : Int32) < 10)
theorem rmZ_lt : ∀ k, ix (rmZ k) < 10 := fun _ => (by decide : ix (0 : Int32) < 10)
theorem bI_01 (p : Bool) : bI p = 0 ∨ bI p = 1 := by cases p <;> simp [bI]
theorem mun_lump {b : Bool} {S : M2} {rem : Nat → Int32} {n : Nat} : (mun b S rem n < 16) ↔ lmn b S rem n = false := by
  have h := @sdn_lt b S rem n
  unfold mun muV
  have e : lmS S (hst b S rem n) (sdn b S rem n) = lmn b S rem n := rfl
  rw [e]
  cases lmn b S rem n with
  | false =>
    refine ⟨fun _ => rfl, fun _ => ?_⟩
    show sdn b S rem n < 16
    rw [ix_ltI (by omega) (by decide)]
    exact h
  | true =>
    refine ⟨fun q => ?_, fun q => absurd q (by decide)⟩
    have q2 : sdn b S rem n + 16 < 16 := q
    have h2 : ix (sdn b S rem n + 16) = ix (sdn b S rem n) + 16 := ix_add (y := 16) (by rw [show ix 16 = 16 from rfl]; omega)
    rw [ix_ltI (by rw [h2]; omega) (by decide), h2, show ix 16 = 16 from rfl] at q2
    omega
theorem mun_15 {b : Bool} {S : M2} {rem : Nat → Int32} {n : Nat} : mun b S rem n &&& 15 = sdn b S rem n := by
  have h := @sdn_lt b S rem n
  unfold mun muV
  cases lmS S (hst b S rem n) (sdn b S rem n) with
  | false =>
    show sdn b S rem n &&& 15 = _
    rw [pk_and _ 4 rfl]
    apply ix_inj
    rw [ix_n (by omega)]
    show ix (sdn b S rem n) % 2 ^ 4 = _
    omega
  | true =>
    show (sdn b S rem n + 16) &&& 15 = _
    rw [pk_and _ 4 rfl]
    apply ix_inj
    rw [ix_n (by omega)]
    have h2 : ix (sdn b S rem n + 16) = ix (sdn b S rem n) + 16 := ix_add (y := 16) (by rw [show ix 16 = 16 from rfl]; omega)
    show ix (sdn b S rem n + 16) % 2 ^ 4 = _
    omega
theorem mun_md {b : Bool} {S : M2} {rem : Nat → Int32} {n : Nat} : md (mun b S rem n) 16 = sdn b S rem n := by
  have h := @sdn_lt b S rem n
  unfold mun muV
  cases lmS S (hst b S rem n) (sdn b S rem n) with
  | false =>
    show md (sdn b S rem n) 16 = _
    apply ix_inj
    rw [md_ix (n := 16) (m := 16) rfl (by decide) (by omega)]
    omega
  | true =>
    show md (sdn b S rem n + 16) 16 = _
    have h2 : ix (sdn b S rem n + 16) = ix (sdn b S rem n) + 16 := ix_add (y := 16) (by rw [show ix 16 = 16 from rfl]; omega)
    apply ix_inj
    rw [md_ix (n := 16) (m := 16) rfl (by decide) (by omega)]
    omega
/-! COUNTS AND FIRSTS -/
def cn (p : Nat → Bool) : Nat → Nat
  | 0 => 0
  | n + 1 => cn p n + (bif p n then 1 else 0)
theorem cn_le (p : Nat → Bool) : ∀ n, cn p n ≤ n
  | 0 => Nat.le_refl _
  | n + 1 => by
    have := cn_le p n
    show cn p n + (bif p n then 1 else 0) ≤ n + 1
    cases p n <;> simp <;> omega
theorem cn_0 (p : Nat → Bool) : ∀ n, cn p n = 0 ↔ ∀ l, l < n → p l = false
  | 0 => ⟨fun _ l h => absurd h (by omega), fun _ => rfl⟩
  | n + 1 => by
    have ih := cn_0 p n
    show cn p n + (bif p n then 1 else 0) = 0 ↔ _
    cases hp : p n with
    | true =>
      refine ⟨fun h => absurd h (by simp), fun h => ?_⟩
      rw [h n (by omega)] at hp
      exact absurd hp (by decide)
    | false =>
      refine ⟨fun h l hl => ?_, fun h => ?_⟩
      · by_cases e : l = n
        · subst e; exact hp
        · exact ih.mp (by simpa using h) l (by omega)
      · have := ih.mpr (fun l hl => h l (by omega))
        simp [this]
def Fst (p : Nat → Bool) (n : Nat) (v : Int32) : Prop := (v = -2 ∧ ∀ l, l < n → p l = false) ∨ ∃ j, j < n ∧ v = nI j ∧ p j = true ∧ ∀ l, l < j → p l = false
theorem Fst_u {p : Nat → Bool} {n : Nat} {v w : Int32} (h : Fst p n v) (k : Fst p n w) : v = w := by
  rcases h with ⟨h1, h2⟩ | ⟨j, h1, h2, h3, h4⟩ <;> rcases k with ⟨k1, k2⟩ | ⟨i, k1, k2, k3, k4⟩
  · rw [h1, k1]
  · rw [h2 i k1] at k3; exact absurd k3 (by decide)
  · rw [k2 j h1] at h3; exact absurd h3 (by decide)
  · have : i = j := by
      rcases Nat.lt_trichotomy i j with q | q | q
      · rw [h4 i q] at k3; exact absurd k3 (by decide)
      · exact q
      · rw [k4 j q] at h3; exact absurd h3 (by decide)
    rw [h2, k2, this]
def fstB (p : Nat → Bool) : Nat → Nat → Int32
  | 0, _ => -2
  | m + 1, i => bif p i then nI i else fstB p m (i + 1)
theorem Fst_fstB (p : Nat → Bool) : ∀ m i, (∀ l, l < i → p l = false) → Fst p (i + m) (fstB p m i)
  | 0, i, h => Or.inl ⟨rfl, h⟩
  | m + 1, i, h => by
    unfold fstB
    cases hp : p i with
    | true => exact Or.inr ⟨i, by omega, rfl, hp, h⟩
    | false =>
      have := Fst_fstB p m (i + 1) (fun l hl => by
        by_cases e : l = i
        · subst e; exact hp
        · exact h l (by omega))
      rw [show i + (m + 1) = i + 1 + m by omega]
      exact this
theorem Fst_0 (p : Nat → Bool) : Fst p 0 (-2) := Or.inl ⟨rfl, fun l h => absurd h (by omega)⟩
theorem Fst_neg {p : Nat → Bool} {n : Nat} {v : Int32} (h : Fst p n v) (hn : n < 2 ^ 31) : (v = -2 ↔ cn p n = 0) ∧ (0 ≤ v ↔ ¬ cn p n = 0) := by
  rcases h with ⟨h1, h2⟩ | ⟨j, h1, h2, h3, h4⟩
  · have := (cn_0 p n).mpr h2
    subst h1
    rw [this]
    decide
  · have : ¬ cn p n = 0 := fun q => by rw [(cn_0 p n).mp q j h1] at h3; exact absurd h3 (by decide)
    have j1 := nI_toInt (n := j) (by omega)
    subst h2
    refine ⟨⟨fun q => ?_, fun q => absurd q this⟩, ⟨fun _ => this, fun _ => by rw [i_le, z_toInt]; omega⟩⟩
    rw [q, show (-2 : Int32).toInt = -2 from rfl] at j1
    omega
theorem Fst_s {p : Nat → Bool} {n : Nat} {v : Int32} (h : Fst p n v) : (p n = false → Fst p (n + 1) v) ∧ (cn p n ≠ 0 → Fst p (n + 1) v) ∧ (cn p n = 0 → p n = true → Fst p (n + 1) (nI n)) := by
  refine ⟨fun q => ?_, fun q => ?_, fun q q2 => Or.inr ⟨n, by omega, rfl, q2, (cn_0 p n).mp q⟩⟩
  · rcases h with ⟨h1, h2⟩ | ⟨j, h1, h2, h3, h4⟩
    · refine Or.inl ⟨h1, fun l hl => ?_⟩
      by_cases e : l = n
      · subst e; exact q
      · exact h2 l (by omega)
    · exact Or.inr ⟨j, by omega, h2, h3, h4⟩
  · rcases h with ⟨h1, h2⟩ | ⟨j, h1, h2, h3, h4⟩
    · exact absurd ((cn_0 p n).mpr h2) q
    · exact Or.inr ⟨j, by omega, h2, h3, h4⟩
/-! SHELVES, AS THEY STAND -/
theorem shf_k : ∀ b i, i < 6 → ∀ j, pC b (shC i) j = true ∧ pC b (shC i + 1) j = true := fun b i hi j => ⟨le_shf b _ j (pShf_s i hi j).1, le_shf b _ j (pShf_s i hi j).2⟩
theorem byV_a {b : Bool} {S N : M2} (hA : agr (pC b) S N) {i : Nat} (hi : i < 6) (v : Int32) : byV N i v = byV S i v := by
  unfold byV
  rw [agr_nI hA (shf_k b i hi 3).1, agr_nL hA (shf_k b i hi _).2]
theorem rmV_a {b : Bool} {S N : M2} (hA : agr (pC b) S N) {i : Nat} (hi : i < 6) (v : Int32) : rmV N i v = rmV S i v := by
  unfold rmV
  rw [byV_a hA hi]
theorem row_of {b : Bool} {S : M2} (hI : INV b S) {i : Nat} (hi : i < 6) {w : Int32} (h : isRowV S i w = true) : gI S 103 i = -2 - w ∧ ix w < 5 ∧ ix (gI S (shC i) 3) ≤ 60 ∧ gI S 104 i = gI S (shC i) 3 ∧ ∀ k, k < 60 → gL S 105 (60 * i + k) = gL S (shC i + 1) k := by
  unfold isRowV at h
  rw [Bool.and_eq_true] at h
  have h1 := of_decide_eq_true h.1
  have h2 := of_decide_eq_true h.2
  rcases hI.2.2.2.2.2.2.2.1 i hi with q | q | q
  · rw [h1] at q; exact absurd q.1 (by decide)
  · rw [h1] at q; exact absurd q.1 (by decide)
  · rw [h2] at q
    exact ⟨q.2.1, q.2.2.1, q.2.2.2.1, q.2.2.2.2.1, q.2.2.2.2.2⟩
section SHELVES
variable {d : Nat} {b : Bool} {S : M2}
theorem c221 {f : Int32 → Mm → Prop} {x w : Int32} {N : M2} (hd : 1 ≤ d) (hI : INV b S) (hA : agr (pC b) S N) (hx : ix x < 6) (hw : ix w < 5) (k : f (bif isRowV S (ix x) w then 0 else refV S (ix x)) (FR b, N)) : WP d 107 221 0 [.ref 67, .int x, .int w] [] 107 (FR b, N) (rI f) := by
  obtain ⟨d, rfl⟩ := ex1 hd
  have e : gI N 103 (ix x) = gI S 103 (ix x) := agr_nI hA rfl
  unfold isRowV refV at k
  refine v221_0 (iK_i hx ?_)
  rw [e]
  have w1 := ix_t w
  rcases hI.2.2.2.2.2.2.2.1 (ix x) hx with q | q | q
  · rw [q.1] at k
    exact brK_t q.2 k
  · have hk := q.2.2
    have h50 := hI.2.2.2.2.2.2.1.1
    have g1 := ix_t (gI S (shC (ix x)) 1)
    have s2 : (-2 - w).toInt = -2 - w.toInt := by
      have := sub_toInt (x := -2) (y := w) (by rw [show (-2 : Int32).toInt = -2 from rfl]; omega) (by rw [show (-2 : Int32).toInt = -2 from rfl]; omega)
      rw [this]; rfl
    rw [q.1] at k
    refine brK_f (fun z => ?_) (iK_i hx (brK_f (fun z => ?_) k))
    · rw [q.2.1, i_eq, show (-1 : Int32).toInt = -1 from rfl] at z; omega
    · rw [q.2.1, i_eq, s2] at z; omega
  · rw [q.1] at k
    have o1 := ix_t (gI S (shC (ix x)) 2)
    have ho := q.2.2.1
    have s2 : (-2 - gI S (shC (ix x)) 2).toInt = -2 - (gI S (shC (ix x)) 2).toInt := by
      have := sub_toInt (x := -2) (y := gI S (shC (ix x)) 2) (by rw [show (-2 : Int32).toInt = -2 from rfl]; omega) (by rw [show (-2 : Int32).toInt = -2 from rfl]; omega)
      rw [this]; rfl
    have s3 : (-2 - w).toInt = -2 - w.toInt := by
      have := sub_toInt (x := -2) (y := w) (by rw [show (-2 : Int32).toInt = -2 from rfl]; omega) (by rw [show (-2 : Int32).toInt = -2 from rfl]; omega)
      rw [this]; rfl
    refine brK_f (fun z => ?_) (iK_i hx ?_)
    · rw [q.2.1, i_eq, s2, show (-1 : Int32).toInt = -1 from rfl] at z; omega
    · rw [q.2.1]
      by_cases hz : gI S (shC (ix x)) 2 = w
      · rw [decide_eq_true hz] at k
        exact brK_t (by rw [hz]) k
      · rw [decide_eq_false hz] at k
        refine brK_f (fun z => hz ?_) k
        rw [i_eq, s2, s3] at z
        exact i_eq.mpr (by omega)
theorem rfV_neg (S : M2) (i : Nat) : ¬ 0 ≤ refV S i := by
  unfold refV
  cases decide (gI S (shC i) 0 = 0) <;> decide
theorem c224 {f : Int32 → Mm → Prop} {x v : Int32} {N : M2} (hd : 1 ≤ d) (hI : INV b S) (hA : agr (pC b) S N) (hx : ix x < 6) {w : Int32} (hr : isRowV S (ix x) w = true) (hv : rg v (ix (gI S (shC (ix x)) 3)) = true) (k : f (byV S (ix x) v) (FR b, N)) : WP d 107 224 0 [.ref 67, .int x, .int v] [] 107 (FR b, N) (rI f) := by
  obtain ⟨d, rfl⟩ := ex1 hd
  obtain ⟨_, _, h60, _, hL⟩ := row_of hI hx hr
  have hv2 := rg_tt hv
  have e : ix (60 * x + v) = 60 * ix x + ix v := ix_at rfl (by omega)
  unfold byV at k
  rw [hv] at k
  refine v224_0 (iK_i (by rw [e]; omega) ?_)
  rw [e, agr_nL (p := pC b) hA rfl, hL _ (by omega)]
  exact k
theorem c223 {f : Int32 → Mm → Prop} {x : Int32} {n : Nat} {N : M2} (hd : 3 ≤ d) (hI : INV b S) (hA : agr (pC b) S N) (hx : ix x < 6) (hn : n < 2 ^ 31) (hr : isRowV S (ix x) 0 = true) (k : f (rmS S (ix x) n) (FR b, N)) : WP d 107 223 0 [.ref 67, .int x, .int (nI n)] [] 107 (FR b, N) (rI f) := by
  obtain ⟨d, rfl⟩ := ex1 (e := 2) hd
  obtain ⟨_, _, h60, h104, _⟩ := row_of hI hx hr
  have e : gI N 104 (ix x) = gI S (shC (ix x)) 3 := (agr_nI hA rfl).trans h104
  refine v223_0 (iK_i hx ?_)
  rw [e]
  unfold rmS rmV at k
  have n1 := nI_toInt hn
  have n2 := ix_t (gI S (shC (ix x)) 3)
  refine ⟨fun z => ?_, fun z => ?_⟩
  · have : rg (nI n) (ix (gI S (shC (ix x)) 3)) = false := rg_f.mpr (by rw [i_le] at z; rw [ix_n (by omega)]; omega)
    have e2 : byV S (ix x) (nI n) = -1 := by unfold byV; rw [this]; rfl
    rw [e2] at k
    exact k
  · have hg : rg (nI n) (ix (gI S (shC (ix x)) 3)) = true := rg_t.mpr (by rw [i_le] at z; rw [ix_n (by omega)]; omega)
    refine c224 (S := S) (by omega) hI hA hx hr hg ⟨rfl, c214 (by omega) ⟨rfl, brK_b (fun q => ?_) (fun q => c224 (S := S) (by omega) hI hA hx hr hg ⟨rfl, ?_⟩)⟩⟩
    · rw [q] at k; exact k
    · rw [q] at k; exact k
/-! THINK -/
theorem frt_pC {N N' : M2} (h : agr (fr [6, 17, 54]) N N') : agr (pC b) N N' := fr_m (fun a ha j => by
  rcases List.mem_cons.mp ha with e | e
  · rw [e]; rfl
  · rcases List.mem_cons.mp e with e | e
    · rw [e]; rfl
    · rw [List.mem_singleton.mp e]; rfl) h
def TrK (b : Bool) (S : M2) (rem : Nat → Int32) (n : Nat) (N : M2) : Prop := HW S N 6 (hst b S rem n) ∧ ∀ j, j < n → gI N 54 j = mun b S rem j
theorem TrK_s {rem : Nat → Int32} {n : Nat} {N N' : M2} (h : TrK b S rem n N) (ha : agr (fr [17, 6]) N N') (hs : HW S N' 6 (hst b S rem (n + 1))) : TrK b S rem (n + 1) (sI N' 54 n (mun b S rem n)) := by
  refine ⟨HW_a (fun j => gI_or (by decide)) hs, fun j hj => ?_⟩
  by_cases e : j = n
  · subst e; exact gI_s ..
  · rw [gI_oj e, (ha 54 j rfl).1]
    exact h.2 j (by omega)
theorem l67 {g : Mm → Prop} {i : Nat} (hd : 5 ≤ d) (hi : i < 6) (hI : INV b S) (hr : isRowV S i 0 = true) {n : Nat} (hn : n ≤ 1000) : ∀ (m k : Nat) (N : M2), k + m = n → agr (pC b) S N → TrK b S (rmS S i) k N → (∀ N', agr (fr [6, 17, 54]) N N' → TrK b S (rmS S i) n N' → g (FR b, N')) → WP (d + 1) 107 67 13 [.ref 4, .ref (shC i), .int (nI n), .int (nI k)] [] 107 (FR b, N) (rV g) := by
  have hL : LawR b S := hI.2.2.2.2.2.2.2.2.2
  have hk := sh_kd i hi
  intro m
  induction m with
  | zero =>
    intro k N hm hA hT q
    have : k = n := by omega
    subst this
    exact v67_13 (brK_t ((cnt_lt rfl (by omega) (Nat.le_refl _)).mpr rfl) (q N (agr_r N) hT))
  | succ m ih =>
    intro k N hm hA hT q
    have k1 := nI_toInt (n := k) (by omega)
    have h60 : ix (gI N (shC i) 3) ≤ 60 := by rw [agr_nI hA (shf_k b i hi 3).1]; exact (row_of hI hi hr).2.2.1
    refine v67_13 (brK_f (fun z => by have := (cnt_lt (n := k) (m := n) rfl (by omega) (by omega)).mp z; omega) (brK_f (fun z => by rw [i_le, show (1000 : Int32).toInt = 1000 from rfl] at z; omega) (oK_i hk.2.1 hk.1 (c69 (by omega) hi h60 ⟨rfl, ?_⟩))))
    rw [rmV_a hA hi]
    refine c71 (S := S) (by omega) (by decide) rfl hL hA hT.1 (fun N1 hN1 hs1 => ⟨rfl, iK_i (by rw [ix_n (by omega)]; omega) ?_⟩)
    rw [ix_n (by omega), ← nI_succ]
    have hF : agr (fr [6, 17, 54]) N (sI N1 54 k (mun b S (rmS S i) k)) := agr_sI rfl (fr_s (by decide) hN1)
    exact ih (k + 1) _ (by omega) (agr_t hA (frt_pC hF)) (TrK_s hT hN1 hs1) (fun N' hN' hT' => q N' (agr_t hF hN') hT')
theorem l67n {g : Mm → Prop} (hd : 5 ≤ d) (hI : INV b S) {n : Nat} (hn : n ≤ 1000) : ∀ (m k : Nat) (N : M2), k + m = n → agr (pC b) S N → TrK b S rmZ k N → (∀ N', agr (fr [6, 17, 54]) N N' → TrK b S rmZ n N' → g (FR b, N')) → WP (d + 1) 107 67 13 [.ref 4, .null, .int (nI n), .int (nI k)] [] 107 (FR b, N) (rV g) := by
  have hL : LawR b S := hI.2.2.2.2.2.2.2.2.2
  intro m
  induction m with
  | zero =>
    intro k N hm hA hT q
    have : k = n := by omega
    subst this
    exact v67_13n (brK_t ((cnt_lt rfl (by omega) (Nat.le_refl _)).mpr rfl) (q N (agr_r N) hT))
  | succ m ih =>
    intro k N hm hA hT q
    have k1 := nI_toInt (n := k) (by omega)
    refine v67_13n (brK_f (fun z => by have := (cnt_lt (n := k) (m := n) rfl (by omega) (by omega)).mp z; omega) (brK_f (fun z => by rw [i_le, show (1000 : Int32).toInt = 1000 from rfl] at z; omega) ?_))
    refine c71 (S := S) (r := rmZ k) (by omega) (by decide) rfl hL hA hT.1 (fun N1 hN1 hs1 => ⟨rfl, iK_i (by rw [ix_n (by omega)]; omega) ?_⟩)
    rw [ix_n (by omega), ← nI_succ]
    have hF : agr (fr [6, 17, 54]) N (sI N1 54 k (mun b S rmZ k)) := agr_sI rfl (fr_s (by decide) hN1)
    exact ih (k + 1) _ (by omega) (agr_t hA (frt_pC hF)) (TrK_s hT hN1 hs1) (fun N' hN' hT' => q N' (agr_t hF hN') hT')
theorem c67 {g : Mm → Prop} {i : Nat} {x : Int32} {N : M2} (hd : 6 ≤ d) (hi : i < 6) (hI : INV b S) (hr : isRowV S i 0 = true) (hn : ix x ≤ 1000) (hA : agr (pC b) S N) (q : ∀ N', agr (fr [6, 17, 54]) N N' → TrK b S (rmS S i) (ix x) N' → g (FR b, N')) : WP d 107 67 0 [.ref 4, .ref (shC i), .int x, U] [] 107 (FR b, N) (rV g) := by
  obtain ⟨d, rfl⟩ := ex1 (e := 5) hd
  refine v67_0 (c68 (S := S) (by omega) (by decide) rfl (by decide) hA (fun N1 hN1 hs1 => ⟨rfl, ?_⟩))
  rw [← n_ix x]
  have hF : agr (fr [6, 17, 54]) N N1 := fr_s (by decide) hN1
  have := l67 (d := d) (g := g) (by omega) hi hI hr hn (ix x) 0 N1 (by omega) (agr_t hA (frt_pC hF)) ⟨hs1, fun j hj => absurd hj (by omega)⟩ (fun N' hN' hT' => q N' (agr_t hF hN') hT')
  exact this
theorem c67n {g : Mm → Prop} {x : Int32} {N : M2} (hd : 6 ≤ d) (hI : INV b S) (hn : ix x ≤ 1000) (hA : agr (pC b) S N) (q : ∀ N', agr (fr [6, 17, 54]) N N' → TrK b S rmZ (ix x) N' → g (FR b, N')) : WP d 107 67 0 [.ref 4, .null, .int x, U] [] 107 (FR b, N) (rV g) := by
  obtain ⟨d, rfl⟩ := ex1 (e := 5) hd
  refine v67_0n (c68 (S := S) (by omega) (by decide) rfl (by decide) hA (fun N1 hN1 hs1 => ⟨rfl, ?_⟩))
  rw [← n_ix x]
  have hF : agr (fr [6, 17, 54]) N N1 := fr_s (by decide) hN1
  have := l67n (d := d) (g := g) (by omega) hI hn (ix x) 0 N1 (by omega) (agr_t hA (frt_pC hF)) ⟨hs1, fun j hj => absurd hj (by omega)⟩ (fun N' hN' hT' => q N' (agr_t hF hN') hT')
  exact this
end SHELVES
