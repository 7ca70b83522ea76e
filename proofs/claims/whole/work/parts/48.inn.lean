/-! ===== an inn by a text ===== -/
def gDig (v : Int32) : Bool := decide (¬ v < nI 48 ∧ ¬ nI 57 < v)
/-- whether the code at p goes on with a text -/
def gOn (c : qA) (n p : Nat) : Bool :=
  if p = 0 then decide (c 0 = nI 105) else if p = 1 then decide (¬ c 1 < nI 50 ∧ ¬ nI 53 < c 1)
  else if (p - 2) % 5 = 0 then decide (c p = nI 59 ∧ p < 52)
  else if (p - 2) % 5 = 1 then decide (c p = nI 116 ∨ c p = nI 103 ∨ c p = nI 119)
  else if (p - 2) % 5 = 2 then decide (¬ c p < nI 48 ∧ c p < c 1)
  else if (p - 2) % 5 = 3 then (gDig (c p) && decide (¬ (c p = nI 48 ∧ p + 1 < n ∧ c (p + 1) = nI 48)))
  else gDig (c p)
theorem T_isDigit (σ : k_S) (v : Int32) : fX4_isDigit σ v = some (bI (gDig v), σ) := by
  unfold fX4_isDigit gDig
  by_cases h1 : v < nI 48
  · rw [if_pos h1, decide_eq_false (fun q => q.1 h1)]; rfl
  · by_cases h2 : nI 57 < v
    · rw [if_neg h1, if_pos h2, decide_eq_false (fun q => q.2 h2)]; rfl
    · rw [if_neg h1, if_neg h2, decide_eq_true ⟨h1, h2⟩]; rfl
theorem k_z_bI {α : Type} (b : Bool) (o : Option α) : k_z (bI b) o = o := by cases b <;> rfl
theorem T_goesOn {σ : k_S} {n p : Nat} (hn : σ.1 2 = nI n) (hn60 : n ≤ 60) (hp : p < n) : fX4_goesOn σ (nI p) = some (bI (gOn (σ.2 4) n p), σ) := by
  unfold fX4_goesOn fX4_goesOn_c116 fX4_goesOn_c180
  rw [q_gd (by omega) (by decide), q_bn, q_cl (by omega)]
  unfold gOn
  by_cases p0 : p = 0
  · subst p0
    rw [if_pos q_0i, if_pos rfl]
    by_cases h : σ.2 4 0 = nI 105
    · rw [if_pos h, decide_eq_true h]; rfl
    · rw [if_neg h, decide_eq_false h]; rfl
  rw [if_neg (by rw [q_eq0 (by omega)]; exact p0), if_neg p0]
  by_cases p1 : p = 1
  · subst p1
    rw [if_pos rfl, if_pos rfl]
    by_cases h1 : σ.2 4 1 < nI 50
    · rw [if_pos h1, decide_eq_false (fun q => q.1 h1)]; rfl
    · by_cases h2 : nI 53 < σ.2 4 1
      · rw [if_neg h1, if_pos h2, decide_eq_false (fun q => q.2 h2)]; rfl
      · rw [if_neg h1, if_neg h2, decide_eq_true ⟨h1, h2⟩]; rfl
  rw [if_neg (by rw [q_eq (by omega) (by decide)]; exact p1), if_neg p1]
  have er : (nI p - nI 2 - (nI p - nI 2) / nI 5 * nI 5) = nI ((p - 2) % 5) := by
    rw [q_sub (by omega)]
    exact pk_rem (by omega) (by decide) (by decide)
  rw [er]
  have hr5 : (p - 2) % 5 < 5 := Nat.mod_lt _ (by decide)
  generalize hr : (p - 2) % 5 = r at hr5
  by_cases r0 : r = 0
  · rw [if_pos (show nI r = nI 0 by rw [r0]), if_pos r0]
    by_cases h1 : σ.2 4 p = nI 59
    · rw [if_pos h1]
      by_cases h2 : p < 52
      · rw [if_pos (nI_lt h2 (by decide)), decide_eq_true ⟨h1, h2⟩]; rfl
      · rw [if_neg (nI_nlt (by omega) (by omega)), decide_eq_false (fun q => h2 q.2)]; rfl
    · rw [if_neg h1, decide_eq_false (fun q => h1 q.1)]; rfl
  have n0 : ¬ nI r = nI 0 := by rw [q_eq (by omega) (by decide)]; exact r0
  rw [if_neg n0, if_neg r0]
  by_cases r1 : r = 1
  · rw [if_pos (show nI r = nI 1 by rw [r1]), if_pos r1]
    by_cases h1 : σ.2 4 p = nI 116
    · rw [if_pos h1, decide_eq_true (.inl h1)]; rfl
    · by_cases h2 : σ.2 4 p = nI 103
      · rw [if_neg h1, if_pos h2, decide_eq_true (.inr (.inl h2))]; rfl
      · by_cases h3 : σ.2 4 p = nI 119
        · rw [if_neg h1, if_neg h2, if_pos h3, decide_eq_true (.inr (.inr h3))]; rfl
        · rw [if_neg h1, if_neg h2, if_neg h3, decide_eq_false (by rintro (q | q | q); exact h1 q; exact h2 q; exact h3 q)]; rfl
  have n1 : ¬ nI r = nI 1 := by rw [q_eq (by omega) (by decide)]; exact r1
  rw [if_neg n1, if_neg r1]
  by_cases r2 : r = 2
  · rw [if_pos (show nI r = nI 2 by rw [r2]), if_pos r2]
    by_cases h1 : σ.2 4 p < nI 48
    · rw [if_pos h1, decide_eq_false (fun q => q.1 h1)]; rfl
    · rw [if_neg h1, q_gd (by decide) (by decide), q_cl (by decide)]
      by_cases h2 : σ.2 4 p < σ.2 4 1
      · rw [if_pos h2, decide_eq_true ⟨h1, h2⟩]; rfl
      · rw [if_neg h2, decide_eq_false (fun q => h2 q.2)]; rfl
  have n2 : ¬ nI r = nI 2 := by rw [q_eq (by omega) (by decide)]; exact r2
  rw [if_neg n2, if_neg r2]
  by_cases r3 : r = 3
  · rw [if_pos (show nI r = nI 3 by rw [r3]), if_pos r3]
    rw [T_isDigit, q_ob]
    simp only [bI_0]
    cases hd : gDig (σ.2 4 p) with
    | false => rfl
    | true =>
      rw [if_neg (by decide), Bool.true_and]
      by_cases h1 : σ.2 4 p = nI 48
      · rw [if_pos h1, hn, q_add]
        by_cases h2 : p + 1 < n
        · rw [if_pos (nI_lt h2 (by omega)), q_gd (by omega) (by decide), q_cl (by omega)]
          by_cases h3 : σ.2 4 (p + 1) = nI 48
          · rw [if_pos h3, decide_eq_false (show ¬ ¬ (_ ∧ _ ∧ _) from fun q => q ⟨h1, h2, h3⟩)]; rfl
          · rw [if_neg h3, decide_eq_true (show ¬ (_ ∧ _ ∧ _) from fun q => h3 q.2.2)]; rfl
        · rw [if_neg (nI_nlt (by omega) (by omega)), decide_eq_true (show ¬ (_ ∧ _ ∧ _) from fun q => h2 q.2.1)]; rfl
      · rw [if_neg h1, decide_eq_true (show ¬ (_ ∧ _ ∧ _) from fun q => h1 q.1)]; rfl
  have n3 : ¬ nI r = nI 3 := by rw [q_eq (by omega) (by decide)]; exact r3
  rw [if_neg n3, if_neg r3]
  rw [T_isDigit, q_ob, k_z_bI]
/-- the class's first fault -/
def gWhole (n : Nat) : Prop := 2 < n ∧ (n - 2) % 5 = 0
theorem T_firstFault {σ : k_S} {n F : Nat} (hn : σ.1 2 = nI n) (hn60 : n ≤ 60) (hF : F ≤ n) (hg : ∀ q, q < F → gOn (σ.2 4) n q = true) (hb : F < n → gOn (σ.2 4) n F = false) : (¬ (F = n ∧ gWhole n) → fX4_firstFault σ = some (nI F, σ)) ∧ (F = n → gWhole n → fX4_firstFault σ = some (k_ng 1, σ)) := by
  have key : ∀ (d p f : Nat), p + d = F → d < f → (¬ (F = n ∧ gWhole n) → fX4_firstFault_c2 f σ (nI p) = some (nI F, σ)) ∧ (F = n → gWhole n → fX4_firstFault_c2 f σ (nI p) = some (k_ng 1, σ)) := by
    intro d
    induction d with
    | zero =>
      intro p f h1 h2
      obtain ⟨f, rfl⟩ := q_fu 0 h2
      have e : p = F := by omega
      subst e
      rw [fX4_firstFault_c2_s, hn]
      by_cases hp : p < n
      · rw [if_pos (nI_lt hp (by omega)), T_goesOn hn hn60 hp, q_ob, hb hp]
        refine ⟨fun _ => rfl, fun q => by omega⟩
      · have e : p = n := by omega
        subst e
        rw [if_neg (nI_nlt (Nat.le_refl _) (by omega))]
        unfold fX4_firstFault_c49 fX4_firstFault_c50
        by_cases h3 : 2 < p
        · have er : (nI p - nI 2 - (nI p - nI 2) / nI 5 * nI 5) = nI ((p - 2) % 5) := by
            rw [q_sub (by omega)]
            exact pk_rem (by omega) (by decide) (by decide)
          rw [if_pos (nI_lt h3 (by omega)), er]
          have hr5 : (p - 2) % 5 < 5 := Nat.mod_lt _ (by decide)
          by_cases h4 : (p - 2) % 5 = 0
          · rw [if_pos (by rw [h4]; rfl), q_bn, if_neg q_n1]
            exact ⟨fun q => absurd ⟨rfl, h3, h4⟩ q, fun _ _ => rfl⟩
          · rw [if_neg (by rw [q_eq0 (by omega)]; exact h4), q_bn, if_pos q_0i, hn]
            exact ⟨fun _ => rfl, fun _ q => absurd q.2 h4⟩
        · rw [if_neg (nI_nlt (by omega) (by decide)), q_bn, if_pos q_0i, hn]
          exact ⟨fun _ => rfl, fun _ q => absurd q.1 h3⟩
    | succ d ih =>
      intro p f h1 h2
      obtain ⟨f, rfl⟩ := q_fu (d + 1) h2
      rw [fX4_firstFault_c2_s, hn, if_pos (nI_lt (by omega) (by omega)), T_goesOn hn hn60 (by omega), q_ob, hg p (by omega), if_neg (show ¬ bI true = 0 by decide), q_bn, q_add]
      exact ih (p + 1) f (by omega) (by omega)
  unfold fX4_firstFault
  rw [q_bn]
  exact key F 0 k_F (by omega) (q_kF (by omega))
-- ---- the reference reads
theorem gDig_n {v : Int32} (h : gDig v = true) : ∃ t, t ≤ 9 ∧ v = nI (48 + t) := by
  unfold gDig at h
  obtain ⟨h1, h2⟩ := of_decide_eq_true h
  have h3 : ¬ v < 0 := fun q => h1 (Int32.lt_trans q (by decide))
  obtain ⟨j, hj, rfl⟩ := nI_of h3
  rw [q_lt hj (by decide)] at h1
  rw [q_lt (by decide) hj] at h2
  exact ⟨j - 48, by omega, by rw [show 48 + (j - 48) = j by omega]⟩
theorem M_digitAt {τ : k_S} {a e : Nat} (ha : a < 240) (he : e ≤ 240) : fX7_digitAt τ (nI a) (nI e) = some (if a < e ∧ gDig (τ.2 2 a) = true then τ.2 2 a - nI 48 else k_ng 9, τ) := by
  unfold fX7_digitAt
  by_cases h : a < e
  · rw [if_pos (nI_lt h (by omega)), q_gd ha (by decide), q_cl (by omega), M_within, q_ob]
    unfold gDig
    by_cases h2 : τ.2 2 a < nI 48 ∨ nI 57 < τ.2 2 a
    · rw [if_pos h2, if_pos q_0i, if_neg]
      rintro ⟨-, q⟩
      obtain ⟨q1, q2⟩ := of_decide_eq_true q
      rcases h2 with h2 | h2
      · exact q1 h2
      · exact q2 h2
    · rw [if_neg h2, if_neg q_n1, q_gd ha (by decide), if_pos]
      exact ⟨h, decide_eq_true ⟨fun q => h2 (.inl q), fun q => h2 (.inr q)⟩⟩
  · rw [if_neg (nI_nlt (by omega) (by omega)), if_neg (fun q => h q.1)]
theorem M_digitOut {τ : k_S} {a e : Nat} (ha : e ≤ a) (ha2 : a < 2 ^ 31) : fX7_digitAt τ (nI a) (nI e) = some (k_ng 9, τ) := by
  unfold fX7_digitAt
  rw [if_neg (nI_nlt ha ha2)]
/-- the tale's parts, by the codes -/
def gKind (c : qA) (x : Nat) : Int32 := if c (2 + 5 * x + 1) = nI 119 then nI 2 else if c (2 + 5 * x + 1) = nI 103 then nI 1 else nI 0
def gOwn (c : qA) (x : Nat) : Int32 := c (2 + 5 * x + 2) - nI 48
def gHigh (c : qA) (x : Nat) : Int32 := nI 10 * (c (2 + 5 * x + 3) - nI 48) + (c (2 + 5 * x + 4) - nI 48)
/-- what is read so far -/
def mRd (τ : k_S) (c : qA) (s p gs x : Nat) : Prop := τ.1 5 = nI (s + p) ∧ τ.1 6 = nI gs ∧ τ.1 7 = nI x ∧ ∀ j, j < x → τ.2 6 j = gKind c j ∧ τ.2 7 j = gOwn c j ∧ τ.2 8 j = gHigh c j
theorem q_ult {t gs : Nat} (ht : t ≤ 9) (hg : gs ≤ 5) (h0 : 1 ≤ gs) : (nI t < nI 0 ∨ nI gs - nI 1 < nI t) ↔ gs ≤ t := by
  rw [q_sub h0, q_lt (by omega) (by decide), q_lt (by omega) (by omega)]
  omega
theorem M_readTale {τ : k_S} {c : qA} {s n gs x : Nat} (hs : s + n ≤ 240) (hn : n ≤ 60) (hc : ∀ q, q < n → τ.2 2 (s + q) = c q) (hgs : 2 ≤ gs ∧ gs ≤ 5) (hc1 : c 1 = nI (gs + 48)) (hx : x < 10) (hr : mRd τ c s (3 + 5 * x) gs x) (hp : 3 + 5 * x ≤ n) : (∃ (F : Nat) (τ' : k_S), 3 + 5 * x ≤ F ∧ F < 7 + 5 * x ∧ F ≤ n ∧ (∀ q, 3 + 5 * x ≤ q → q < F → gOn c n q = true) ∧ (F < n → gOn c n F = false) ∧ fX7_readTale τ (nI (s + n)) = some (nI 0, τ') ∧ τ'.1 5 = nI (s + F) ∧ kM τ τ') ∨ (∃ τ' : k_S, 7 + 5 * x ≤ n ∧ (∀ q, 3 + 5 * x ≤ q → q < 7 + 5 * x → gOn c n q = true) ∧ fX7_readTale τ (nI (s + n)) = some (nI 1, τ') ∧ mRd τ' c s (7 + 5 * x) gs (x + 1) ∧ kM τ τ') := by
  obtain ⟨r5, r6, r7, rj⟩ := hr
  have gon : ∀ i, i < 5 → gOn c n (2 + 5 * x + i) = if i = 0 then decide (c (2 + 5 * x) = nI 59 ∧ 2 + 5 * x < 52) else if i = 1 then decide (c (2 + 5 * x + 1) = nI 116 ∨ c (2 + 5 * x + 1) = nI 103 ∨ c (2 + 5 * x + 1) = nI 119) else if i = 2 then decide (¬ c (2 + 5 * x + 2) < nI 48 ∧ c (2 + 5 * x + 2) < c 1) else if i = 3 then (gDig (c (2 + 5 * x + 3)) && decide (¬ (c (2 + 5 * x + 3) = nI 48 ∧ 2 + 5 * x + 3 + 1 < n ∧ c (2 + 5 * x + 3 + 1) = nI 48))) else gDig (c (2 + 5 * x + 4)) := by
    intro i hi
    unfold gOn
    rw [if_neg (by omega), if_neg (by omega), show (2 + 5 * x + i - 2) % 5 = i by omega]
    rcases (show i = 0 ∨ i = 1 ∨ i = 2 ∨ i = 3 ∨ i = 4 by omega) with rfl | rfl | rfl | rfl | rfl <;> simp
  have g1 := gon 1 (by omega)
  have g2 := gon 2 (by omega)
  have g3 := gon 3 (by omega)
  have g4 := gon 4 (by omega)
  rw [if_neg (by decide), if_pos rfl] at g1
  rw [if_neg (by decide), if_neg (by decide), if_pos rfl] at g2
  rw [if_neg (by decide), if_neg (by decide), if_neg (by decide), if_pos rfl] at g3
  rw [if_neg (by decide), if_neg (by decide), if_neg (by decide), if_neg (by decide)] at g4
  unfold fX7_readTale
  rw [r5]
  by_cases hp1 : ¬ 3 + 5 * x < n
  · rw [if_neg (nI_nlt (by omega) (by omega))]
    exact .inl ⟨3 + 5 * x, τ, by omega, by omega, hp, fun q h1 h2 => by omega, fun q => absurd q hp1, rfl, r5, kM.rf⟩
  have hp1 := Decidable.not_not.mp hp1
  rw [if_pos (nI_lt (by omega) (by omega)), q_gd (by omega) (by decide), q_cl (by omega), q_bn, r7, q_bn, hc _ hp1]
  rw [show 2 + 5 * x + 1 = 3 + 5 * x by omega] at g1
  -- the rest, by the kind
  have rest : ∀ kd : Int32, ¬ kd = k_ng 9 → kd = gKind c x → gOn c n (3 + 5 * x) = true → (∃ (F : Nat) (τ' : k_S), 3 + 5 * x ≤ F ∧ F < 7 + 5 * x ∧ F ≤ n ∧ (∀ q, 3 + 5 * x ≤ q → q < F → gOn c n q = true) ∧ (F < n → gOn c n F = false) ∧ fX7_readTale_c62 τ (nI (s + n)) (nI x) (nI x) kd = some (nI 0, τ') ∧ τ'.1 5 = nI (s + F) ∧ kM τ τ') ∨ (∃ τ' : k_S, 7 + 5 * x ≤ n ∧ (∀ q, 3 + 5 * x ≤ q → q < 7 + 5 * x → gOn c n q = true) ∧ fX7_readTale_c62 τ (nI (s + n)) (nI x) (nI x) kd = some (nI 1, τ') ∧ mRd τ' c s (7 + 5 * x) gs (x + 1) ∧ kM τ τ') := by
    intro kd hkd hke hgon1
    unfold fX7_readTale_c62
    rw [q_gd hx (by decide), q_bn, s_sa, q_cl (by omega)]
    rw [q_gd hx (by decide), show (k_sA τ 6 (upd (τ.2 6) x kd)).2 6 x = kd from pk_us, if_neg hkd, q_bn]
    have t1 : (k_sA τ 6 (upd (τ.2 6) x kd)).1 5 = nI (s + (3 + 5 * x)) := r5
    rw [t1, q_add]
    rw [show (k_sf (k_sA τ 6 (upd (τ.2 6) x kd)) 5 (nI (s + (3 + 5 * x) + 1))).1 5 = nI (s + (3 + 5 * x) + 1) from rfl]
    have cellq : ∀ (T : k_S) (q : Nat), T.2 2 = τ.2 2 → q < n → T.2 2 (s + q) = c q := fun T q hT hq => by rw [hT]; exact hc q hq
    -- whose
    have dig2 : fX7_digitAt (k_sf (k_sA τ 6 (upd (τ.2 6) x kd)) 5 (nI (s + (3 + 5 * x) + 1))) (nI (s + (3 + 5 * x) + 1)) (nI (s + n)) = some (if 4 + 5 * x < n ∧ gDig (c (4 + 5 * x)) = true then c (4 + 5 * x) - nI 48 else k_ng 9, (k_sf (k_sA τ 6 (upd (τ.2 6) x kd)) 5 (nI (s + (3 + 5 * x) + 1)))) := by
      by_cases hq : 4 + 5 * x < n
      · rw [M_digitAt (by omega) (by omega)]
        rw [show s + (3 + 5 * x) + 1 = s + (4 + 5 * x) by omega]
        rw [cellq (k_sf (k_sA τ 6 (upd (τ.2 6) x kd)) 5 (nI (s + (4 + 5 * x)))) (4 + 5 * x) rfl hq]
        by_cases hd : gDig (c (4 + 5 * x)) = true
        · rw [if_pos ⟨by omega, hd⟩, if_pos ⟨hq, hd⟩]
        · rw [if_neg (fun q => hd q.2), if_neg (fun q => hd q.2)]
      · rw [M_digitOut (by omega) (by omega), if_neg (fun q => hq q.1)]
    rw [dig2, q_ob]
    rw [show 2 + 5 * x + 2 = 4 + 5 * x by omega] at g2
    by_cases hw : ¬ (4 + 5 * x < n ∧ gOn c n (4 + 5 * x) = true)
    · -- no guest's number
      have hbad : ∀ T : k_S, T.2 7 x = (if 4 + 5 * x < n ∧ gDig (c (4 + 5 * x)) = true then c (4 + 5 * x) - nI 48 else k_ng 9) → T.1 6 = nI gs → fX7_within T (T.2 7 x) (nI 0) (T.1 6 - nI 1) = some (nI 0, T) := by
        intro T h7 h6
        rw [M_within, h7, h6]
        rw [if_pos]
        by_cases hd : 4 + 5 * x < n ∧ gDig (c (4 + 5 * x)) = true
        · rw [if_pos hd]
          obtain ⟨t, ht, e⟩ := gDig_n hd.2
          rw [e, q_sub (by omega), show 48 + t - 48 = t by omega, q_ult ht hgs.2 (by omega)]
          refine Nat.le_of_not_lt fun hlt => hw ⟨hd.1, ?_⟩
          rw [g2, decide_eq_true_iff, e, hc1, q_lt (by omega) (by decide), q_lt (by omega) (by omega)]
          omega
        · rw [if_neg hd]
          exact .inl (by rw [q_ngp (by decide) (by decide) (by decide)]; trivial)
      rw [q_gd hx (by decide), q_bn, s_sa, q_cl (by omega), q_gd hx (by decide), hbad _ (by exact pk_us) (by exact r6), q_ob, if_pos q_0i]
      refine .inl ⟨4 + 5 * x, _, by omega, by omega, by omega, fun q h1 h2 => ?_, fun hq => ?_, rfl, ?_, ?_⟩
      · rw [show q = 3 + 5 * x by omega]; exact hgon1
      · exact Bool.eq_false_iff.mpr (fun q => hw ⟨hq, q⟩)
      · show nI (s + (3 + 5 * x) + 1) = nI (s + (4 + 5 * x))
        rw [show s + (3 + 5 * x) + 1 = s + (4 + 5 * x) by omega]
      · exact ⟨⟨⟨rfl, rfl, rfl, rfl⟩, rfl, rfl, rfl, rfl, rfl, rfl, rfl, rfl⟩, ⟨rfl, rfl, rfl⟩, rfl, rfl⟩
    obtain ⟨hq4, hgon2⟩ := Decidable.not_not.mp hw
    have hgo2 := hgon2
    rw [g2, decide_eq_true_iff, hc1] at hgo2
    have hd2 : gDig (c (4 + 5 * x)) = true := decide_eq_true ⟨hgo2.1, fun q => by
      have := Int32.lt_trans q hgo2.2
      rw [q_lt (by decide) (by omega)] at this
      omega⟩
    obtain ⟨t, ht, et⟩ := gDig_n hd2
    have htg : t < gs := by
      have := hgo2.2
      rw [et, q_lt (by omega) (by omega)] at this
      omega
    rw [if_pos ⟨hq4, hd2⟩]
    have own : c (4 + 5 * x) - nI 48 = nI t := by rw [et, q_sub (by omega), show 48 + t - 48 = t by omega]
    rw [own, q_gd hx (by decide), q_bn, s_sa, q_cl (by omega), q_gd hx (by decide), M_within]
    have w7 : (k_sA (k_sf (k_sA τ 6 (upd (τ.2 6) x kd)) 5 (nI (s + (3 + 5 * x) + 1))) 7 (upd ((k_sf (k_sA τ 6 (upd (τ.2 6) x kd)) 5 (nI (s + (3 + 5 * x) + 1))).2 7) x (nI t))).2 7 x = nI t := pk_us
    have w6 : (k_sA (k_sf (k_sA τ 6 (upd (τ.2 6) x kd)) 5 (nI (s + (3 + 5 * x) + 1))) 7 (upd ((k_sf (k_sA τ 6 (upd (τ.2 6) x kd)) 5 (nI (s + (3 + 5 * x) + 1))).2 7) x (nI t))).1 6 = nI gs := r6
    rw [w7, w6, if_neg (by rw [q_ult ht hgs.2 (by omega)]; omega), q_ob, if_neg q_n1, q_bn]
    let τ2 : k_S := k_sA (k_sf (k_sA τ 6 (upd (τ.2 6) x kd)) 5 (nI (s + (3 + 5 * x) + 1))) 7 (upd ((k_sf (k_sA τ 6 (upd (τ.2 6) x kd)) 5 (nI (s + (3 + 5 * x) + 1))).2 7) x (nI t))
    have t2 : τ2.1 5 = nI (s + (3 + 5 * x) + 1) := rfl
    show (∃ (F : Nat) (τ' : k_S), _ ∧ _ ∧ _ ∧ _ ∧ _ ∧ (k_ob (fX7_digitAt (k_sf τ2 5 (τ2.1 5 + nI 1)) ((k_sf τ2 5 (τ2.1 5 + nI 1)).1 5) (nI (s + n))) _) = _ ∧ _ ∧ _) ∨ (∃ τ' : k_S, _ ∧ _ ∧ (k_ob (fX7_digitAt (k_sf τ2 5 (τ2.1 5 + nI 1)) ((k_sf τ2 5 (τ2.1 5 + nI 1)).1 5) (nI (s + n))) _) = _ ∧ _ ∧ _)
    rw [t2, q_add]
    let τ3 : k_S := k_sf τ2 5 (nI (s + (3 + 5 * x) + 1 + 1))
    have t3 : τ3.1 5 = nI (s + (3 + 5 * x) + 1 + 1) := rfl
    have dig3 : fX7_digitAt τ3 (nI (s + (3 + 5 * x) + 1 + 1)) (nI (s + n)) = some (if 5 + 5 * x < n ∧ gDig (c (5 + 5 * x)) = true then c (5 + 5 * x) - nI 48 else k_ng 9, τ3) := by
      by_cases hq : 5 + 5 * x < n
      · rw [M_digitAt (by omega) (by omega), show s + (3 + 5 * x) + 1 + 1 = s + (5 + 5 * x) by omega, cellq τ3 (5 + 5 * x) rfl hq]
        by_cases hd : gDig (c (5 + 5 * x)) = true
        · rw [if_pos ⟨by omega, hd⟩, if_pos ⟨hq, hd⟩]
        · rw [if_neg (fun q => hd q.2), if_neg (fun q => hd q.2)]
      · rw [M_digitOut (by omega) (by omega), if_neg (fun q => hq q.1)]
    have dig4 : fX7_digitAt τ3 (nI (s + (3 + 5 * x) + 1 + 1) + nI 1) (nI (s + n)) = some (if 6 + 5 * x < n ∧ gDig (c (6 + 5 * x)) = true then c (6 + 5 * x) - nI 48 else k_ng 9, τ3) := by
      rw [q_add]
      by_cases hq : 6 + 5 * x < n
      · rw [M_digitAt (by omega) (by omega), show s + (3 + 5 * x) + 1 + 1 + 1 = s + (6 + 5 * x) by omega, cellq τ3 (6 + 5 * x) rfl hq]
        by_cases hd : gDig (c (6 + 5 * x)) = true
        · rw [if_pos ⟨by omega, hd⟩, if_pos ⟨hq, hd⟩]
        · rw [if_neg (fun q => hd q.2), if_neg (fun q => hd q.2)]
      · rw [M_digitOut (by omega) (by omega), if_neg (fun q => hq q.1)]
    have hk3 : kM τ τ3 := ⟨⟨⟨rfl, rfl, rfl, rfl⟩, rfl, rfl, rfl, rfl, rfl, rfl, rfl, rfl⟩, ⟨rfl, rfl, rfl⟩, rfl, rfl⟩
    show (∃ (F : Nat) (τ' : k_S), _ ∧ _ ∧ _ ∧ _ ∧ _ ∧ (k_ob (fX7_digitAt τ3 (τ3.1 5) (nI (s + n))) _) = _ ∧ _ ∧ _) ∨ (∃ τ' : k_S, _ ∧ _ ∧ (k_ob (fX7_digitAt τ3 (τ3.1 5) (nI (s + n))) _) = _ ∧ _ ∧ _)
    rw [t3, dig3, q_ob, q_bn, t3, dig4, q_ob, q_bn]
    rw [show 2 + 5 * x + 3 = 5 + 5 * x by omega, show 5 + 5 * x + 1 = 6 + 5 * x by omega] at g3
    rw [show 2 + 5 * x + 4 = 6 + 5 * x by omega] at g4
    have good2 : ∀ q, 3 + 5 * x ≤ q → q < 5 + 5 * x → gOn c n q = true := fun q h1 h2 => by
      rcases (show q = 3 + 5 * x ∨ q = 4 + 5 * x by omega) with rfl | rfl
      · exact hgon1
      · exact hgon2
    unfold fX7_readTale_c170 fX7_readTale_c187
    simp only [t3, q_bn, q_z0]
    by_cases h5 : ¬ (5 + 5 * x < n ∧ gDig (c (5 + 5 * x)) = true)
    · rw [if_neg h5]
      simp only [if_true]
      refine .inl ⟨5 + 5 * x, k_sf τ3 5 (nI (s + (3 + 5 * x) + 1 + 1) + nI 0), by omega, by omega, by omega, good2, fun hq => ?_, rfl, ?_, hk3⟩
      · rw [g3, Bool.eq_false_iff.mpr (fun q => h5 ⟨hq, q⟩), Bool.false_and]
      · show nI (s + (3 + 5 * x) + 1 + 1) + nI 0 = _
        rw [q_add, show s + (3 + 5 * x) + 1 + 1 + 0 = s + (5 + 5 * x) by omega]
    have h5 := Decidable.not_not.mp h5
    obtain ⟨t5, ht5, e5⟩ := gDig_n h5.2
    have own5 : c (5 + 5 * x) - nI 48 = nI t5 := by rw [e5, q_sub (by omega), show 48 + t5 - 48 = t5 by omega]
    have n9 : ∀ j : Nat, j ≤ 9 → ¬ nI j = k_ng 9 := fun j hj => by rw [q_ngr (by decide) (by decide) (by omega)]; exact not_false
    rw [if_pos h5, own5, if_neg (n9 t5 ht5)]
    by_cases h6 : ¬ (6 + 5 * x < n ∧ gDig (c (6 + 5 * x)) = true)
    · rw [if_neg h6]
      simp only [if_true, if_neg (n9 t5 ht5)]
      refine .inl ⟨6 + 5 * x, k_sf τ3 5 (nI (s + (3 + 5 * x) + 1 + 1) + nI 1), by omega, by omega, by omega, fun q h1 h2 => ?_, fun hq => ?_, rfl, ?_, hk3⟩
      · by_cases hq : q < 5 + 5 * x
        · exact good2 q h1 hq
        · rw [show q = 5 + 5 * x by omega, g3, h5.2, Bool.true_and, decide_eq_true_iff]
          rintro ⟨-, hq6, hq7⟩
          exact h6 ⟨hq6, by rw [hq7]; decide⟩
      · rw [g4]; exact Bool.eq_false_iff.mpr (fun q => h6 ⟨hq, q⟩)
      · show nI (s + (3 + 5 * x) + 1 + 1) + nI 1 = _
        rw [q_add, show s + (3 + 5 * x) + 1 + 1 + 1 = s + (6 + 5 * x) by omega]
    have h6 := Decidable.not_not.mp h6
    obtain ⟨t6, ht6, e6⟩ := gDig_n h6.2
    have own6 : c (6 + 5 * x) - nI 48 = nI t6 := by rw [e6, q_sub (by omega), show 48 + t6 - 48 = t6 by omega]
    rw [if_pos h6, own6, if_neg (n9 t6 ht6)]
    rw [q_gd hx (by decide), s_sa, q_cl (by omega), q_gd hx (by decide)]
    have w8 : (k_sA τ3 8 (upd (τ3.2 8) x (nI 10 * nI t5 + nI t6))).2 8 x = nI (10 * t5 + t6) := by
      rw [← q_add, ← q_mul]; exact pk_us
    rw [w8]
    by_cases h0 : 10 * t5 + t6 = 0
    · rw [if_pos (by rw [h0]; rfl)]
      refine .inl ⟨5 + 5 * x, _, by omega, by omega, by omega, good2, fun hq => ?_, rfl, ?_, ⟨⟨⟨rfl, rfl, rfl, rfl⟩, rfl, rfl, rfl, rfl, rfl, rfl, rfl, rfl⟩, ⟨rfl, rfl, rfl⟩, rfl, rfl⟩⟩
      · rw [g3, decide_eq_false (fun q => q ⟨by rw [e5, show t5 = 0 by omega], h6.1, by rw [e6, show t6 = 0 by omega]⟩), Bool.and_false]
      · show nI (s + (3 + 5 * x) + 1 + 1) = _
        rw [show s + (3 + 5 * x) + 1 + 1 = s + (5 + 5 * x) by omega]
    · rw [if_neg (by rw [q_eq0 (by omega)]; exact h0)]
      have r73 : τ3.1 7 = nI x := r7
      refine .inr ⟨_, by omega, fun q h1 h2 => ?_, rfl, ⟨?_, r6, ?_, fun j hj => ?_⟩, ⟨⟨⟨rfl, rfl, rfl, rfl⟩, rfl, rfl, rfl, rfl, rfl, rfl, rfl, rfl⟩, ⟨rfl, rfl, rfl⟩, rfl, rfl⟩⟩
      · by_cases hq : q < 5 + 5 * x
        · exact good2 q h1 hq
        · by_cases hq5 : q = 5 + 5 * x
          · rw [hq5, g3, h5.2, Bool.true_and, decide_eq_true_iff]
            rintro ⟨b1, -, b2⟩
            rw [e5, nI_eq (by omega) (by decide)] at b1
            rw [e6, nI_eq (by omega) (by decide)] at b2
            omega
          · rw [show q = 6 + 5 * x by omega, g4]; exact h6.2
      · show nI (s + (3 + 5 * x) + 1 + 1) + nI 2 = nI (s + (7 + 5 * x))
        rw [q_add, show s + (3 + 5 * x) + 1 + 1 + 2 = s + (7 + 5 * x) by omega]
      · show τ3.1 7 + nI 1 = nI (x + 1)
        rw [r73, q_add]
      · show upd (τ.2 6) x kd j = gKind c j ∧ upd (τ.2 7) x (nI t) j = gOwn c j ∧ upd (τ.2 8) x (nI 10 * nI t5 + nI t6) j = gHigh c j
        by_cases hjx : j = x
        · subst hjx
          rw [pk_us, pk_us, pk_us]
          refine ⟨hke, ?_, ?_⟩
          · unfold gOwn
            rw [show 2 + 5 * j + 2 = 4 + 5 * j by omega, own]
          · unfold gHigh
            rw [show 2 + 5 * j + 3 = 5 + 5 * j by omega, show 2 + 5 * j + 4 = 6 + 5 * j by omega, own5, own6]
        · rw [pk_un hjx, pk_un hjx, pk_un hjx]
          exact rj j (by omega)
  have e3 : 2 + 5 * x + 1 = 3 + 5 * x := by omega
  by_cases k1 : c (3 + 5 * x) = nI 116
  · rw [if_pos k1]
    exact rest (nI 0) (by decide) (by unfold gKind; rw [e3, k1]; decide) (by rw [g1]; exact decide_eq_true (.inl k1))
  by_cases k2 : c (3 + 5 * x) = nI 103
  · rw [if_neg k1, if_pos k2]
    exact rest (nI 1) (by decide) (by unfold gKind; rw [e3, k2]; decide) (by rw [g1]; exact decide_eq_true (.inr (.inl k2)))
  by_cases k3 : c (3 + 5 * x) = nI 119
  · rw [if_neg k1, if_neg k2, if_pos k3]
    exact rest (nI 2) (by decide) (by unfold gKind; rw [e3, k3]; decide) (by rw [g1]; exact decide_eq_true (.inr (.inr k3)))
  rw [if_neg k1, if_neg k2, if_neg k3]
  unfold fX7_readTale_c62
  rw [q_gd hx (by decide), q_bn, s_sa, q_cl (by omega), q_gd hx (by decide), show (k_sA τ 6 (upd (τ.2 6) x (k_ng 9))).2 6 x = k_ng 9 from pk_us, if_pos rfl]
  refine .inl ⟨3 + 5 * x, _, by omega, by omega, hp, fun q h1 h2 => by omega, fun hq => ?_, rfl, r5, ⟨⟨⟨rfl, rfl, rfl, rfl⟩, rfl, rfl, rfl, rfl, rfl, rfl, rfl, rfl⟩, ⟨rfl, rfl, rfl⟩, rfl, rfl⟩⟩
  rw [g1]
  exact decide_eq_false (by rintro (q | q | q); exact k1 q; exact k2 q; exact k3 q)

def mIn (τ : k_S) (o : Option (Int32 × k_S)) (c : qA) (s n : Nat) : Prop :=
  (∃ (F : Nat) (τ' : k_S), F ≤ n ∧ (∀ q, q < F → gOn c n q = true) ∧ (F < n → gOn c n F = false) ∧ ¬ (F = n ∧ gWhole n) ∧ o = some (nI 0, τ') ∧ τ'.1 5 = nI (s + F) ∧ kM τ τ') ∨
  (∃ (x gs : Nat) (τ' : k_S), n = 2 + 5 * x ∧ 1 ≤ x ∧ x ≤ 10 ∧ 2 ≤ gs ∧ gs ≤ 5 ∧ c 1 = nI (gs + 48) ∧ (∀ q, q < n → gOn c n q = true) ∧ o = some (nI 1, τ') ∧ mRd τ' c s n gs x ∧ kM τ τ')
theorem mIn.tr {τ τ1 : k_S} {o : Option (Int32 × k_S)} {c : qA} {s n : Nat} (hk : kM τ τ1) (h : mIn τ1 o c s n) : mIn τ o c s n := by
  rcases h with ⟨F, τ', a1, a2, a3, a4, a5, a6, a7⟩ | ⟨x, gs, τ', a1, a2, a3, a4, a5, a6, a7, a8, a9, a10⟩
  · exact .inl ⟨F, τ', a1, a2, a3, a4, a5, a6, hk.tr a7⟩
  · exact .inr ⟨x, gs, τ', a1, a2, a3, a4, a5, a6, a7, a8, a9, hk.tr a10⟩
theorem gOn_0 {c : qA} {n x : Nat} : gOn c n (2 + 5 * x) = decide (c (2 + 5 * x) = nI 59 ∧ 2 + 5 * x < 52) := by
  unfold gOn
  rw [if_neg (by omega), if_neg (by omega), if_pos (by omega)]
theorem M_readInn_loop {c : qA} {s n gs : Nat} (hs : s + n ≤ 240) (hn : n ≤ 60) (hgs : 2 ≤ gs ∧ gs ≤ 5) (hc1 : c 1 = nI (gs + 48)) : ∀ (d x f : Nat) (τ : k_S), x + d = 10 → d < f → (∀ q, q < n → τ.2 2 (s + q) = c q) → mRd τ c s (2 + 5 * x) gs x → 2 + 5 * x ≤ n → (∀ q, q < 2 + 5 * x → gOn c n q = true) → mIn τ (fX7_readInn_c76 f τ (nI (s + n))) c s n := by
  intro d
  induction d with
  | zero =>
    intro x f τ h1 h2 hc hr hp hg
    obtain ⟨f, rfl⟩ := q_fu 0 h2
    have e : x = 10 := by omega
    subst e
    obtain ⟨r5, r6, r7, rj⟩ := hr
    rw [fX7_readInn_c76_s, r7, r5, if_neg (by rw [q_eq0 (by decide)]; decide)]
    by_cases hp1 : 52 < n
    · rw [if_pos (nI_lt (by omega) (by omega))]
      unfold fX7_readInn_c91
      rw [r7, if_pos rfl]
      refine .inl ⟨52, τ, by omega, hg, fun _ => ?_, by omega, rfl, r5, kM.rf⟩
      rw [show 52 = 2 + 5 * 10 from rfl, gOn_0]
      exact decide_eq_false (fun q => absurd q.2 (by decide))
    · rw [if_neg (nI_nlt (by omega) (by omega))]
      have e : n = 2 + 5 * 10 := by omega
      subst e
      exact .inr ⟨10, gs, τ, rfl, by decide, by decide, hgs.1, hgs.2, hc1, hg, rfl, ⟨r5, r6, r7, rj⟩, kM.rf⟩
  | succ d ih =>
    intro x f τ h1 h2 hc hr hp hg
    obtain ⟨f, rfl⟩ := q_fu (d + 1) h2
    have hr' := hr
    obtain ⟨r5, r6, r7, rj⟩ := hr'
    rw [fX7_readInn_c76_s, r7, r5]
    by_cases hend : ¬ x = 0 ∧ ¬ 2 + 5 * x < n
    · rw [if_neg (by rw [q_eq0 (by omega)]; exact hend.1), if_neg (nI_nlt (by omega) (by omega))]
      have e : n = 2 + 5 * x := by omega
      subst e
      exact .inr ⟨x, gs, τ, rfl, by omega, by omega, hgs.1, hgs.2, hc1, hg, rfl, ⟨r5, r6, r7, rj⟩, kM.rf⟩
    have body : mIn τ (fX7_readInn_c91 (fX7_readInn_c76 f) τ (nI (s + n))) c s n := by
      unfold fX7_readInn_c91
      rw [r7, r5, if_neg (by rw [q_eq (by omega) (by omega)]; omega)]
      by_cases hp1 : ¬ 2 + 5 * x < n
      · rw [if_neg (nI_nlt (by omega) (by omega))]
        have e : x = 0 := Decidable.byContradiction fun q => hend ⟨q, hp1⟩
        subst e
        refine .inl ⟨2, τ, by omega, hg, fun q => by omega, fun q => ?_, rfl, r5, kM.rf⟩
        unfold gWhole at q
        omega
      have hp1 := Decidable.not_not.mp hp1
      rw [if_pos (nI_lt (by omega) (by omega)), q_gd (by omega) (by decide), q_cl (by omega), hc _ hp1]
      by_cases h59 : ¬ c (2 + 5 * x) = nI 59
      · rw [if_neg h59]
        refine .inl ⟨2 + 5 * x, τ, by omega, hg, fun _ => ?_, by omega, rfl, r5, kM.rf⟩
        rw [gOn_0]
        exact decide_eq_false (fun q => h59 q.1)
      have h59 := Decidable.not_not.mp h59
      have hgp : gOn c n (2 + 5 * x) = true := by
        rw [gOn_0]
        exact decide_eq_true ⟨h59, by omega⟩
      rw [if_pos h59, q_bn, q_add]
      have hr1 : mRd (k_sf τ 5 (nI (s + (2 + 5 * x) + 1))) c s (3 + 5 * x) gs x := ⟨by
        show nI (s + (2 + 5 * x) + 1) = _
        rw [show s + (2 + 5 * x) + 1 = s + (3 + 5 * x) by omega], r6, r7, rj⟩
      have hk1 : kM τ (k_sf τ 5 (nI (s + (2 + 5 * x) + 1))) := ⟨⟨⟨rfl, rfl, rfl, rfl⟩, rfl, rfl, rfl, rfl, rfl, rfl, rfl, rfl⟩, ⟨rfl, rfl, rfl⟩, rfl, rfl⟩
      rcases M_readTale (τ := k_sf τ 5 (nI (s + (2 + 5 * x) + 1))) hs hn hc hgs hc1 (show x < 10 by omega) hr1 (by omega) with ⟨F, τ', b1, b2, b3, b4, b5, b6, b7, b8⟩ | ⟨τ', b1, b2, b3, b4, b5⟩
      · rw [b6, q_ob, if_pos q_0i]
        refine .inl ⟨F, τ', b3, fun q hq => ?_, b5, fun q => ?_, rfl, b7, hk1.tr b8⟩
        · by_cases h3 : q < 2 + 5 * x
          · exact hg q h3
          · by_cases h4 : q = 2 + 5 * x
            · rw [h4]; exact hgp
            · exact b4 q (by omega) hq
        · unfold gWhole at q
          omega
      · rw [b3, q_ob, if_neg q_n1]
        refine mIn.tr (hk1.tr b5) (ih (x + 1) f τ' (by omega) (by omega) (fun q hq => ?_) (by rw [show 2 + 5 * (x + 1) = 7 + 5 * x by omega]; exact b4) (by omega) (fun q hq => ?_))
        · rw [b5.2.1.2.2]
          exact hc q hq
        · by_cases h3 : q < 2 + 5 * x
          · exact hg q h3
          · by_cases h4 : q = 2 + 5 * x
            · rw [h4]; exact hgp
            · exact b2 q (by omega) (by omega)
    by_cases hx0 : x = 0
    · rw [if_pos (by rw [hx0]; rfl)]
      exact body
    · rw [if_neg (by rw [q_eq0 (by omega)]; exact hx0)]
      by_cases hp1 : 2 + 5 * x < n
      · rw [if_pos (nI_lt (by omega) (by omega))]
        exact body
      · exact absurd ⟨hx0, hp1⟩ hend
theorem M_readInn {τ : k_S} {c : qA} {s n : Nat} (hs : s + n ≤ 240) (hn : n ≤ 60) (hc : ∀ q, q < n → τ.2 2 (s + q) = c q) (h5 : τ.1 5 = nI s) : mIn τ (fX7_readInn τ (nI (s + n))) c s n := by
  unfold fX7_readInn
  rw [h5]
  by_cases h0 : ¬ 0 < n
  · rw [if_neg (nI_nlt (by omega) (by omega))]
    refine .inl ⟨0, τ, by omega, fun q hq => by omega, fun q => by omega, fun q => ?_, rfl, by rw [h5, Nat.add_zero], kM.rf⟩
    unfold gWhole at q
    omega
  have h0 := Decidable.not_not.mp h0
  have hc0 := hc 0 h0
  rw [Nat.add_zero] at hc0
  have g0 : gOn c n 0 = decide (c 0 = nI 105) := if_pos rfl
  have g1 : gOn c n 1 = decide (¬ c 1 < nI 50 ∧ ¬ nI 53 < c 1) := by
    unfold gOn
    rw [if_neg (by decide), if_pos rfl]
  rw [if_pos (nI_lt (by omega) (by omega)), q_gd (by omega) (by decide), q_cl (by omega), hc0]
  by_cases hi : ¬ c 0 = nI 105
  · rw [if_neg hi]
    refine .inl ⟨0, τ, by omega, fun q hq => by omega, fun q => by rw [g0]; exact decide_eq_false hi, by omega, rfl, by rw [h5, Nat.add_zero], kM.rf⟩
  have hi := Decidable.not_not.mp hi
  have go0 : gOn c n 0 = true := by rw [g0]; exact decide_eq_true hi
  rw [if_pos hi, q_bn, q_add]
  let τ1 : k_S := k_sf τ 5 (nI (s + 1))
  have dig : fX7_digitAt τ1 (nI (s + 1)) (nI (s + n)) = some (if 1 < n ∧ gDig (c 1) = true then c 1 - nI 48 else k_ng 9, τ1) := by
    by_cases hq : 1 < n
    · have e1 : τ1.2 2 (s + 1) = c 1 := hc 1 hq
      rw [M_digitAt (by omega) (by omega), e1]
      by_cases hd : gDig (c 1) = true
      · rw [if_pos ⟨by omega, hd⟩, if_pos ⟨hq, hd⟩]
      · rw [if_neg (fun q => hd q.2), if_neg (fun q => hd q.2)]
    · rw [M_digitOut (by omega) (by omega), if_neg (fun q => hq q.1)]
  show mIn τ (k_ob (fX7_digitAt τ1 (nI (s + 1)) (nI (s + n))) _) c s n
  rw [dig, q_ob, q_bn]
  let V : Int32 := if 1 < n ∧ gDig (c 1) = true then c 1 - nI 48 else k_ng 9
  have wi : fX7_within (k_sf τ1 6 V) ((k_sf τ1 6 V).1 6) (nI 2) (nI 5) = some (if V < nI 2 ∨ nI 5 < V then nI 0 else nI 1, k_sf τ1 6 V) := M_within _ _ _ _
  show mIn τ (k_ob (fX7_within (k_sf τ1 6 V) ((k_sf τ1 6 V).1 6) (nI 2) (nI 5)) _) c s n
  rw [wi, q_ob]
  have hk1 : kM τ (k_sf τ1 6 V) := ⟨⟨⟨rfl, rfl, rfl, rfl⟩, rfl, rfl, rfl, rfl, rfl, rfl, rfl, rfl⟩, ⟨rfl, rfl, rfl⟩, rfl, rfl⟩
  by_cases hw : V < nI 2 ∨ nI 5 < V
  · rw [if_pos hw, if_pos q_0i]
    refine .inl ⟨1, _, by omega, fun q hq => by rw [show q = 0 by omega]; exact go0, fun q => ?_, fun q => ?_, rfl, rfl, hk1⟩
    · rw [g1]
      refine decide_eq_false fun q2 => ?_
      have hd : gDig (c 1) = true := decide_eq_true ⟨fun q3 => q2.1 (Int32.lt_trans q3 (by decide)), fun q3 => q2.2 (Int32.lt_trans (by decide) q3)⟩
      obtain ⟨t, ht, et⟩ := gDig_n hd
      have eV : V = nI t := by
        show (if 1 < n ∧ gDig (c 1) = true then c 1 - nI 48 else k_ng 9) = _
        rw [if_pos ⟨q, hd⟩, et, q_sub (by omega), show 48 + t - 48 = t by omega]
      rw [eV, q_lt (by omega) (by decide), q_lt (by decide) (by omega)] at hw
      rw [et, q_lt (by omega) (by decide), q_lt (by decide) (by omega)] at q2
      omega
    · unfold gWhole at q
      omega
  · rw [if_neg hw, if_neg q_n1, q_bn, q_bn]
    have hd : 1 < n ∧ gDig (c 1) = true := Decidable.byContradiction fun q => by
      have eV : V = k_ng 9 := if_neg q
      rw [eV] at hw
      exact hw (.inl (by rw [q_ngp (by decide) (by decide) (by decide)]; trivial))
    obtain ⟨t, ht, et⟩ := gDig_n hd.2
    have eV : V = nI t := by
      show (if 1 < n ∧ gDig (c 1) = true then c 1 - nI 48 else k_ng 9) = _
      rw [if_pos hd, et, q_sub (by omega), show 48 + t - 48 = t by omega]
    have hw' := hw
    rw [eV, q_lt (by omega) (by decide), q_lt (by decide) (by omega)] at hw'
    let τ2 : k_S := k_sf (k_sf (k_sf τ1 6 V) 5 ((k_sf τ1 6 V).1 5 + nI 1)) 7 (nI 0)
    show mIn τ (fX7_readInn_c76 k_F τ2 (nI (s + n))) c s n
    have hk2 : kM τ τ2 := ⟨⟨⟨rfl, rfl, rfl, rfl⟩, rfl, rfl, rfl, rfl, rfl, rfl, rfl, rfl⟩, ⟨rfl, rfl, rfl⟩, rfl, rfl⟩
    have go1 : gOn c n 1 = true := by
      rw [g1]
      refine decide_eq_true ?_
      rw [et, q_lt (by omega) (by decide), q_lt (by decide) (by omega)]
      omega
    refine mIn.tr hk2 (M_readInn_loop (gs := t) hs hn ⟨by omega, by omega⟩ (by rw [et, Nat.add_comm]) 10 0 k_F τ2 (by omega) (q_kF (by decide)) hc ⟨?_, eV, rfl, fun j hj => by omega⟩ (by omega) (fun q hq => ?_))
    · show nI (s + 1) + nI 1 = nI (s + (2 + 5 * 0))
      rw [q_add, show s + 1 + 1 = s + (2 + 5 * 0) by omega]
    · rcases (show q = 0 ∨ q = 1 by omega) with rfl | rfl
      · exact go0
      · exact go1
-- ---- the tales by the codes
theorem gTale {c : qA} {n gs x : Nat} (hg : ∀ q, q < n → gOn c n q = true) (hx : 7 + 5 * x ≤ n) (hgs : gs ≤ 5) (hc1 : c 1 = nI (gs + 48)) : (gKind c x = nI 0 ∨ gKind c x = nI 1 ∨ gKind c x = nI 2) ∧ (∃ g, g < gs ∧ gOwn c x = nI g) ∧ ∃ h, 1 ≤ h ∧ h ≤ 99 ∧ gHigh c x = nI h := by
  have g2 := hg (2 + 5 * x + 2) (by omega)
  have g3 := hg (2 + 5 * x + 3) (by omega)
  have g4 := hg (2 + 5 * x + 4) (by omega)
  unfold gOn at g2 g3 g4
  rw [if_neg (by omega), if_neg (by omega), if_neg (by omega), if_neg (by omega), if_pos (by omega), decide_eq_true_iff, hc1] at g2
  rw [if_neg (by omega), if_neg (by omega), if_neg (by omega), if_neg (by omega), if_neg (by omega), if_pos (by omega), Bool.and_eq_true, decide_eq_true_iff] at g3
  rw [if_neg (by omega), if_neg (by omega), if_neg (by omega), if_neg (by omega), if_neg (by omega), if_neg (by omega)] at g4
  have hd2 : gDig (c (2 + 5 * x + 2)) = true := decide_eq_true ⟨g2.1, fun q => by
    have := Int32.lt_trans q g2.2
    rw [q_lt (by decide) (by omega)] at this
    omega⟩
  obtain ⟨t, ht, et⟩ := gDig_n hd2
  obtain ⟨t3, ht3, e3⟩ := gDig_n g3.1
  obtain ⟨t4, ht4, e4⟩ := gDig_n g4
  refine ⟨?_, ⟨t, ?_, ?_⟩, 10 * t3 + t4, ?_, by omega, ?_⟩
  · unfold gKind
    repeat' split
    · exact .inr (.inr rfl)
    · exact .inr (.inl rfl)
    · exact .inl rfl
  · have := g2.2
    rw [et, q_lt (by omega) (by omega)] at this
    omega
  · unfold gOwn
    rw [et, q_sub (by omega), show 48 + t - 48 = t by omega]
  · refine Nat.pos_of_ne_zero fun q => g3.2 ⟨?_, by omega, ?_⟩
    · rw [e3, show t3 = 0 by omega]
    · rw [show 2 + 5 * x + 3 + 1 = 2 + 5 * x + 4 by omega, e4, show t4 = 0 by omega]
  · unfold gHigh
    rw [e3, e4, q_sub (by omega), q_sub (by omega), q_mul, q_add, show 48 + t3 - 48 = t3 by omega, show 48 + t4 - 48 = t4 by omega]

-- ---- the class opens
theorem T_kindOf {σ : k_S} {x : Nat} (hx : x < 10) : fX4_kindOf σ (nI x) = some (gKind (σ.2 4) x, σ) := by
  unfold fX4_kindOf gKind
  simp (disch := omega) only [q_bn, q_ob, q_z0, q_z1, q_gd, q_cl, q_add, q_mul, q_lt, q_eq, q_eq0, q_lt0, q_0lt, q_ngl, q_ngr, q_ng0, q_ngz, q_ngn, q_ngp, q_nlt]
  rw [show 2 + x * 5 + 1 = 2 + 5 * x + 1 by omega]
  repeat' split
  all_goals rfl
theorem T_ownerOf {σ : k_S} {x : Nat} (hx : x < 10) : fX4_ownerOf σ (nI x) = some (gOwn (σ.2 4) x, σ) := by
  unfold fX4_ownerOf gOwn
  simp (disch := omega) only [q_bn, q_ob, q_z0, q_z1, q_gd, q_cl, q_add, q_mul, q_lt, q_eq, q_eq0, q_lt0, q_0lt, q_ngl, q_ngr, q_ng0, q_ngz, q_ngn, q_ngp, q_nlt]
  rw [show 2 + x * 5 + 2 = 2 + 5 * x + 2 by omega]
theorem T_heightOf {σ : k_S} {x : Nat} (hx : x < 10) : fX4_heightOf σ (nI x) = some (gHigh (σ.2 4) x, σ) := by
  unfold fX4_heightOf gHigh
  simp (disch := omega) only [q_bn, q_ob, q_z0, q_z1, q_gd, q_cl, q_add, q_mul, q_lt, q_eq, q_eq0, q_lt0, q_0lt, q_ngl, q_ngr, q_ng0, q_ngz, q_ngn, q_ngp, q_nlt]
  rw [show 2 + x * 5 + 3 = 2 + 5 * x + 3 by omega, show 2 + 5 * x + 3 + 1 = 2 + 5 * x + 4 by omega]
  rw [Int32.mul_comm, Int32.sub_eq_add_neg, Int32.add_assoc, ← Int32.sub_eq_add_neg]
def tO (σ : k_S) (a b c : qA) : k_S := k_sA (k_sA (k_sA σ 5 a) 6 b) 7 c
theorem tO_st (σ : k_S) (a b c a' b' c' : qA) : k_sA (k_sA (k_sA (tO σ a b c) 5 a') 6 b') 7 c' = tO σ a' b' c' := by
  unfold tO k_sA k_up
  refine Prod.ext rfl (funext fun j => ?_)
  by_cases h5 : j = 5
  · subst h5; rfl
  · by_cases h6 : j = 6
    · subst h6; rfl
    · by_cases h7 : j = 7
      · subst h7; rfl
      · simp [h5, h6, h7]
theorem tO_id (σ : k_S) : tO σ (σ.2 5) (σ.2 6) (σ.2 7) = σ := by
  unfold tO k_sA k_up
  refine Prod.ext rfl (funext fun j => ?_)
  by_cases h5 : j = 5
  · subst h5; rfl
  · by_cases h6 : j = 6
    · subst h6; rfl
    · by_cases h7 : j = 7
      · subst h7; rfl
      · simp [h5, h6, h7]
theorem T_open {σ : k_S} {G N K n : Nat} (hn : σ.1 2 = nI n) (hnN : n = 2 + 5 * N) (hN : N ≤ 10) (hG5 : G ≤ 5) (hc1 : σ.2 4 1 = nI (G + 48)) (hK : σ.1 6 = nI K) (hK60 : K ≤ 60) (ht : hTail (σ.2 8, σ.2 9)) : fX0_open σ = some ((), s89 (k_sA (k_sf (k_sf (tO (k_sf (k_sf σ 3 (nI G)) 4 (nI N)) (pSet (gKind (σ.2 4)) (σ.2 5) 0 N) (pSet (gOwn (σ.2 4)) (σ.2 6) 0 N) (pSet (gHigh (σ.2 4)) (σ.2 7) 0 N)) 5 (nI 99)) 6 (nI 0)) 10 (k_fl (σ.2 10) 0 5 (k_ng 9))) hZ) := by
  let σ0 : k_S := k_sf (k_sf σ 3 (nI G)) 4 (nI N)
  have key : ∀ (d x f : Nat) (a b c : qA), x + d = N → d < f → fX0_open_c18 f (tO σ0 a b c) (nI x) = some ((), s89 (k_sA (k_sf (k_sf (tO σ0 (pSet (gKind (σ.2 4)) a x N) (pSet (gOwn (σ.2 4)) b x N) (pSet (gHigh (σ.2 4)) c x N)) 5 (nI 99)) 6 (nI 0)) 10 (k_fl (σ.2 10) 0 5 (k_ng 9))) hZ) := by
    intro d
    induction d with
    | zero =>
      intro x f a b c h1 h2
      obtain ⟨f, rfl⟩ := q_fu 0 h2
      rw [fX0_open_c18_s, show (tO σ0 a b c).1 4 = nI N from rfl, if_neg (nI_nlt (by omega) (by omega)), q_bn]
      rw [pSet_no _ _ (by omega), pSet_no _ _ (by omega), pSet_no _ _ (by omega)]
      have e1 : (k_sf (tO σ0 a b c) 5 (nI 99)).1 6 = nI K := hK
      rw [e1, T_goBack (σ := k_sf (tO σ0 a b c) 5 (nI 99)) (G := G) (N := N) (K := K) rfl hG5 rfl hN hK hK60 (Nat.le_refl K) (fun i j hi => by omega) ht, q_ob, Nat.sub_self]
      rfl
    | succ d ih =>
      intro x f a b c h1 h2
      obtain ⟨f, rfl⟩ := q_fu (d + 1) h2
      rw [fX0_open_c18_s, show (tO σ0 a b c).1 4 = nI N from rfl, if_pos (nI_lt (by omega) (by omega))]
      rw [T_kindOf (by omega), q_ob, q_gd (by omega) (by decide), q_bn, s_sa, q_cl (by omega), T_ownerOf (by omega), q_ob, q_gd (by omega) (by decide), q_bn, s_sa, q_cl (by omega), T_heightOf (by omega), q_ob, q_gd (by omega) (by decide), q_bn, s_sa, q_cl (by omega), q_bn, q_add]
      have := ih (x + 1) f (upd a x (gKind (σ.2 4) x)) (upd b x (gOwn (σ.2 4) x)) (upd c x (gHigh (σ.2 4) x)) (by omega) (by omega)
      rw [pSet_step _ _ (by omega), pSet_step _ _ (by omega), pSet_step _ _ (by omega)] at this
      rw [← this]
      refine congrArg (fun T => fX0_open_c18 f T (nI (x + 1))) ?_
      exact tO_st σ0 a b c _ _ _
  unfold fX0_open fX4_guests fX4_tales
  rw [q_gd (by decide) (by decide), q_ob, q_bn]
  rw [show Int32.toNatClampNeg (nI 1) = 1 from q_cl (by decide), hc1, q_sub (by omega), show G + 48 - 48 = G by omega]
  rw [show (k_sf σ 3 (nI G)).1 2 = nI n from hn, q_sub (by omega), pk_div (by omega) (by decide) (by decide), q_ob, q_bn, q_bn]
  rw [show (n - 2) / 5 = N by omega]
  have := key N 0 k_F (σ.2 5) (σ.2 6) (σ.2 7) (by omega) (q_kF (by omega))
  rw [show tO σ0 (σ.2 5) (σ.2 6) (σ.2 7) = σ0 from tO_id σ0] at this
  exact this
def mO (τ : k_S) (a b c : qA) : k_S := k_sA (k_sA (k_sA τ 3 a) 4 b) 5 c
theorem mO_st (σ : k_S) (a b c a' b' c' : qA) : k_sA (k_sA (k_sA (mO σ a b c) 3 a') 4 b') 5 c' = mO σ a' b' c' := by
  unfold mO k_sA k_up
  refine Prod.ext rfl (funext fun j => ?_)
  by_cases h5 : j = 5
  · subst h5; rfl
  · by_cases h6 : j = 4
    · subst h6; rfl
    · by_cases h7 : j = 3
      · subst h7; rfl
      · simp [h5, h6, h7]
theorem mO_id (σ : k_S) : mO σ (σ.2 3) (σ.2 4) (σ.2 5) = σ := by
  unfold mO k_sA k_up
  refine Prod.ext rfl (funext fun j => ?_)
  by_cases h5 : j = 5
  · subst h5; rfl
  · by_cases h6 : j = 4
    · subst h6; rfl
    · by_cases h7 : j = 3
      · subst h7; rfl
      · simp [h5, h6, h7]
theorem M_inn_loop {τ0 : k_S} {N : Nat} (hN3 : τ0.1 3 = nI N) (hN : N ≤ 10) (ht : hTail (τ0.2 12, τ0.2 13)) : ∀ (d x f : Nat) (a b c : qA), x + d = N → d < f → fX7_inn_c103 f (mO τ0 a b c) (nI x) = some (nI N, k_sA (sCD (k_sf (k_sf (mO τ0 (pSet (τ0.2 6) a x N) (pSet (τ0.2 7) b x N) (pSet (τ0.2 8) c x N)) 4 (nI 99)) 8 (nI 0)) hZ) 11 (k_fl (τ0.2 11) 0 5 (k_ng 9))) := by
  intro d
  induction d with
  | zero =>
    intro x f a b c h1 h2
    obtain ⟨f, rfl⟩ := q_fu 0 h2
    rw [fX7_inn_c103_s, show (mO τ0 a b c).1 3 = nI N from hN3, if_neg (nI_nlt (by omega) (by omega)), q_bn, q_bn]
    rw [pSet_no _ _ (by omega), pSet_no _ _ (by omega), pSet_no _ _ (by omega)]
    rw [M_countTold (τ := k_sf (k_sf (mO τ0 a b c) 4 (nI 99)) 8 (nI 0)) (N := N) (K := 0) hN rfl (by decide) (fun j hj => by omega) ht, q_ob, M_chooseNone, q_ob]
    show some (τ0.1 3, _) = _
    rw [hN3]
    rfl
  | succ d ih =>
    intro x f a b c h1 h2
    obtain ⟨f, rfl⟩ := q_fu (d + 1) h2
    rw [fX7_inn_c103_s, show (mO τ0 a b c).1 3 = nI N from hN3, if_pos (nI_lt (by omega) (by omega))]
    rw [q_gd (by omega) (by decide), q_gd (by omega) (by decide), q_bn, s_sa, q_cl (by omega), q_gd (by omega) (by decide), q_gd (by omega) (by decide), q_bn, s_sa, q_cl (by omega), q_gd (by omega) (by decide), q_gd (by omega) (by decide), q_bn, s_sa, q_cl (by omega), q_bn, q_add]
    have := ih (x + 1) f (upd a x (τ0.2 6 x)) (upd b x (τ0.2 7 x)) (upd c x (τ0.2 8 x)) (by omega) (by omega)
    rw [pSet_step _ _ (by omega), pSet_step _ _ (by omega), pSet_step _ _ (by omega)] at this
    rw [← this]
    refine congrArg (fun T => fX7_inn_c103 f T (nI (x + 1))) ?_
    exact mO_st τ0 a b c _ _ _
theorem pSet_eq {f f' o o' : qA} {N : Nat} (h : ∀ j, j < N → f j = f' j) (ho : o = o') : pSet f o 0 N = pSet f' o' 0 N := by
  funext j
  unfold pSet
  by_cases hj : 0 ≤ j ∧ j < N
  · rw [if_pos hj, if_pos hj]; exact h j hj.2
  · rw [if_neg hj, if_neg hj, ho]
theorem pu_inn {σ τ : k_S} (h : RR σ τ) (x y z u : Int32) : qOk (fX6_inn σ x y z u) (fX7_inn τ x y z u) := by
  have hf := h.fault (nI 0)
  unfold fX6_inn fX7_inn
  rw [q_bn, q_bn]
  generalize hσ : k_sf σ 1 (nI 0) = σ1 at hf ⊢
  generalize hτ : k_sf τ 0 (nI 0) = τ1 at hf ⊢
  clear h
  obtain ⟨⟨G0, N0, m0, K0, hH⟩, hS, h0, h1⟩ := id hf
  have hH' := hH
  obtain ⟨⟨g1, g2⟩, ⟨n1, n2⟩, ⟨m1, m2⟩, ⟨k1, k2⟩, ⟨hG, hN, hm, hK, hz⟩, ⟨a5, a6, a7, a8, a9, a10⟩, ht, hc, hnn, hzz, hl, hh⟩ := hH
  rw [T_isSheet, M_isSheet, q_ob, q_ob]
  by_cases hzz' : x < nI 0 ∨ nI 3 < x
  · rw [if_pos hzz', if_pos q_0i, if_pos q_0i]
    exact ⟨_, σ1, τ1, rfl, rfl, hf⟩
  rw [if_neg hzz', if_neg q_n1, if_neg q_n1, T_isSort, M_isSort, q_ob, q_ob]
  by_cases hu : y < nI 0 ∨ nI 2 < y
  · rw [if_pos hu, if_pos q_0i, if_pos q_0i]
    exact ⟨_, σ1, τ1, rfl, rfl, hf⟩
  rw [if_neg hu, if_neg q_n1, if_neg q_n1]
  obtain ⟨k, hk, rfl⟩ := q_pass (by decide) hzz'
  have hk4 : k < 4 := by omega
  obtain ⟨c, hc5, e1, e2, e3⟩ := hS.against hk4 y z u
  rw [e1, e2, q_ob, q_ob, q_bn, q_bn]
  by_cases hc0 : ¬ c = 0
  · rw [if_neg (by rw [q_eq0 (by omega)]; exact hc0), q_bn, if_neg (by rw [q_eq0 (by omega)]; exact hc0)]
    exact ⟨_, _, _, rfl, rfl, hf.fault _⟩
  have hc0 := Decidable.not_not.mp hc0
  obtain ⟨len, a, n, q1, rfl, rfl, q4, q5⟩ := e3 hc0
  subst hc0
  rw [if_pos q_0i, q_bn, q_bn, if_pos q_0i]
  unfold fX2_take_a11 k_gc
  simp (disch := omega) only [q_bn, q_ob, q_z0, q_z1, q_gd, q_cl, q_add, q_mul, q_lt, q_eq, q_eq0, q_lt0, q_0lt, q_ngl, q_ngr, q_ng0, q_ngz, q_ngn, q_ngp, q_nlt, s_sc]
  rw [if_neg (by simp only [false_or]; omega), q_ob]
  let σ2 : k_S := k_sA (k_sf σ1 2 (nI n)) 4 (va_cpy (σ1.2 1) (σ1.2 4) (k * 60 + a) 0 n)
  have hcod : ∀ q, q < n → τ1.2 2 (60 * k + a + q) = σ2.2 4 q := fun q hq => by
    show _ = va_cpy (σ1.2 1) (σ1.2 4) (k * 60 + a) 0 n q
    unfold va_cpy
    rw [if_pos (by omega), show k * 60 + a + (q - 0) = 60 * k + (a + q) by omega, q5 (a + q) (by omega), Nat.add_assoc]
  have hkT2 : kT σ1 σ2 := ⟨⟨⟨rfl, rfl, rfl, rfl⟩, rfl, rfl, rfl, rfl, rfl, rfl, rfl, rfl, rfl⟩, ⟨rfl, rfl, rfl⟩, rfl, rfl⟩
  have hkM2 : kM τ1 (k_sf τ1 5 (nI (60 * k + a))) := ⟨⟨⟨rfl, rfl, rfl, rfl⟩, rfl, rfl, rfl, rfl, rfl, rfl, rfl, rfl⟩, ⟨rfl, rfl, rfl⟩, rfl, rfl⟩
  show qOk (k_ob (fX4_firstFault σ2) _) (k_ob (fX7_readInn (k_sf τ1 5 (nI (60 * k + a))) (nI (60 * k + a + n))) _)
  rcases M_readInn (τ := k_sf τ1 5 (nI (60 * k + a))) (c := σ2.2 4) (s := 60 * k + a) (n := n) (by omega) (by omega) hcod rfl with ⟨F, τ', b1, b2, b3, b4, b5, b6, b7⟩ | ⟨N, G, τ', b1, b2, b3, b4, b5, b6, b7, b8, b9, b10⟩
  · rw [b5, (T_firstFault (σ := σ2) (n := n) rfl (by omega) b1 b2 b3).1 b4, q_ob, q_ob, if_neg (by rw [q_ngr (by decide) (by decide) (by omega)]; exact not_false), if_pos q_0i, b6, q_sub (by omega), show 60 * k + a + F - (60 * k + a) = F by omega]
    exact ⟨_, _, _, rfl, rfl, hf.keep hkT2 (hkM2.tr b7)⟩
  · rw [b8, (T_firstFault (σ := σ2) (n := n) (F := n) rfl (by omega) (Nat.le_refl n) b7 (fun q => by omega)).2 rfl ⟨by omega, by omega⟩, q_ob, q_ob, if_pos rfl, if_neg q_n1]
    obtain ⟨⟨r1, r2, r3, rj⟩, hkM3⟩ := And.intro b9 b10
    rw [T_open (σ := σ2) (G := G) (N := N) (K := K0) (n := n) rfl b1 b3 b5 b6 k1 hK hl, q_ob]
    let τ3 : k_S := k_sf (k_sf τ' 2 (nI G)) 3 (nI N)
    have e3 : k_sf (k_sf τ' 2 (τ'.1 6)) 3 ((k_sf τ' 2 (τ'.1 6)).1 7) = τ3 := by
      show k_sf (k_sf τ' 2 (τ'.1 6)) 3 (τ'.1 7) = τ3
      rw [r2, r3]
    rw [e3]
    have hM := hkM2.tr hkM3
    have := M_inn_loop (τ0 := τ3) (N := N) rfl b3 (by
      show hTail (τ'.2 12, τ'.2 13)
      rw [hM.1.2.2.2.2.2.2.2.1, hM.1.2.2.2.2.2.2.2.2, ← a8, ← a9]
      exact hl) N 0 k_F (τ3.2 3) (τ3.2 4) (τ3.2 5) (by omega) (q_kF (by omega))
    rw [mO_id] at this
    rw [this]
    obtain ⟨⟨⟨c1, c2, c3, c4⟩, c5, c6, c7, c8, c9, c10, c11, c12⟩, ⟨c13, c14, c15⟩, c16, c17⟩ := hM
    refine ⟨_, _, _, rfl, rfl, ⟨G, N, 99, 0, ⟨rfl, rfl⟩, ⟨rfl, rfl⟩, ⟨rfl, rfl⟩, ⟨rfl, rfl⟩, ⟨b5, b3, by decide, by decide, by omega⟩, ⟨?_, ?_, ?_, rfl, rfl, ?_⟩, ?_, ?_, ?_, ?_, ?_, ?_⟩, ?_, ?_, ?_⟩
    · exact pSet_eq (fun j hj => ((rj j hj).1).symm) (a5.trans c5.symm)
    · exact pSet_eq (fun j hj => ((rj j hj).2.1).symm) (a6.trans c6.symm)
    · exact pSet_eq (fun j hj => ((rj j hj).2.2).symm) (a7.trans c7.symm)
    · show k_fl (σ1.2 10) 0 5 (k_ng 9) = k_fl (τ'.2 11) 0 5 (k_ng 9)
      rw [a10, c10]
    · intro j hj
      have := gTale (c := σ2.2 4) (n := n) (gs := G) (x := j) b7 (by omega) b5 b6
      show pKind (pSet (gKind (σ2.2 4)) _ 0 N) j ∧ (∃ g, g < G ∧ pSet (gOwn (σ2.2 4)) _ 0 N j = nI g) ∧ ∃ h, 1 ≤ h ∧ h ≤ 99 ∧ pSet (gHigh (σ2.2 4)) _ 0 N j = nI h
      unfold pKind
      rw [pSet_in (Nat.zero_le j) hj, pSet_in (Nat.zero_le j) hj, pSet_in (Nat.zero_le j) hj]
      exact this
    · intro g hg
      exact .inl (if_pos ⟨Nat.zero_le g, by omega⟩)
    · intro n hn
      omega
    · intro n hn
      omega
    · exact hZ_tail
    · exact fun _ => rfl
    · exact hS.keep ⟨rfl, rfl, rfl⟩ ⟨c13, c14, c15⟩
    · exact h0.trans c17.symm
    · exact h1.trans c16.symm
