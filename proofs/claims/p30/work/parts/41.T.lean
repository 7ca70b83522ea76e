/-! ===== the class's calls, in numbers: taken over from the proof of the whole (by program: wip/pure30/extract.py) ===== -/
/-! ===== nights: undone, going by; tonight; parts ===== -/
theorem q_n1 : ¬ nI 1 = (0 : Int32) := by decide
-- ---- tonight
def qRow (σ : k_S) : qA := fun g => pCh (tTall σ) (σ.2 10 g)
theorem qPlace_set {G g : Nat} (hg : g < G) (f old : qA) : pPl (pSet f old 0 G) g (pSet f old 0 G g) G 0 0 = qPlace G f g := qPlace_congr (v := pSet f old 0 G) (w := f) hg (fun j hj => pSet_in (Nat.zero_le j) hj)
theorem pBi_congr {v w : qA} {t : Int32} : ∀ (d o acc : Nat), (∀ j, o ≤ j → j < o + d → v j = w j) → pBi v t d o acc = pBi w t d o acc
  | 0, _, _, _ => rfl
  | d + 1, o, acc, h => by
    unfold pBi
    rw [h o (Nat.le_refl o) (by omega)]
    exact pBi_congr d (o + 1) _ (fun j h1 h2 => h j (by omega) (by omega))
-- ---- parts
theorem s_sfsf (σ : k_S) (k : Nat) (a b : Int32) : k_sf (k_sf σ k a) k b = k_sf σ k b := by
  unfold k_sf k_up
  refine Prod.ext (funext fun j => ?_) rfl
  by_cases hj : j = k <;> simp [hj]
theorem T_faulty (σ : k_S) (f : Int32) : fX6_faulty σ f = some (k_ng 10 - f, k_sf σ 1 f) := rfl
-- ---- a night goes by
def qBeat (w : qA) (g o : Nat) : Prop := o ≠ g ∧ (w g < w o ∨ (w o = w g ∧ o < g))
theorem pPl_zero (w : qA) (g : Nat) : ∀ (d o acc : Nat), pPl w g (w g) d o acc = 0 ↔ acc = 0 ∧ ∀ j, o ≤ j → j < o + d → ¬ qBeat w g j
  | 0, o, acc => ⟨fun h => ⟨h, fun j h1 h2 => by omega⟩, fun h => h.1⟩
  | d + 1, o, acc => by
    unfold pPl
    rw [pPl_zero w g d (o + 1)]
    have key : ((if o = g then acc else if w g < w o then acc + 1 else if w o = w g then if o < g then acc + 1 else acc else acc) = 0) ↔ (acc = 0 ∧ ¬ qBeat w g o) := by
      unfold qBeat
      by_cases h1 : o = g
      · simp [h1]
      · by_cases h2 : w g < w o
        · simp [h1, h2]
        · by_cases h3 : w o = w g
          · by_cases h4 : o < g <;> simp [h1, h2, h3, h4, q_nlt]
          · simp [h1, h2, h3]
    rw [key]
    constructor
    · rintro ⟨⟨h1, h2⟩, h3⟩
      refine ⟨h1, fun j h4 h5 => ?_⟩
      by_cases hj : j = o
      · rw [hj]; exact h2
      · exact h3 j (by omega) (by omega)
    · rintro ⟨h1, h2⟩
      exact ⟨⟨h1, h2 o (Nat.le_refl o) (by omega)⟩, fun j h4 h5 => h2 j (by omega) (by omega)⟩
theorem bed_exists (w : qA) : ∀ n, 1 ≤ n → ∃ g, g < n ∧ ∀ j, j < n → ¬ qBeat w g j := by
  intro n
  induction n with
  | zero => intro h; omega
  | succ n ih =>
    intro _
    by_cases hn : n = 0
    · subst hn
      exact ⟨0, by omega, fun j hj hb => hb.1 (by omega)⟩
    · obtain ⟨g, hg, hb⟩ := ih (by omega)
      by_cases hnb : qBeat w g n
      · refine ⟨n, by omega, fun j hj hb2 => ?_⟩
        by_cases hjn : j = n
        · exact hb2.1 hjn
        · have := hb j (by omega)
          by_cases hjg : j = g
          · subst hjg
            unfold qBeat at hnb hb2
            simp only [Int32.lt_iff_toInt_lt, ← Int32.toInt_inj] at hnb hb2
            omega
          · unfold qBeat at hnb hb2 this
            simp only [Int32.lt_iff_toInt_lt, ← Int32.toInt_inj] at hnb hb2 this
            omega
      · refine ⟨g, by omega, fun j hj => ?_⟩
        by_cases hjn : j = n
        · rw [hjn]; exact hnb
        · exact hb j (by omega)
theorem bed_one (w : qA) {G : Nat} (hG : G ≠ 0) : ∃ g0, g0 < G ∧ ∀ g, g < G → (qPlace G w g = 0 ↔ g = g0) := by
  obtain ⟨g0, h1, h2⟩ := bed_exists w G (by omega)
  refine ⟨g0, h1, fun g hg => ?_⟩
  unfold qPlace
  rw [pPl_zero]
  constructor
  · rintro ⟨-, h3⟩
    by_cases e : g = g0
    · exact e
    · have a := h3 g0 (Nat.zero_le _) (by omega)
      have b := h2 g hg
      exfalso
      unfold qBeat at a b
      simp only [Int32.lt_iff_toInt_lt, ← Int32.toInt_inj] at a b
      omega
  · rintro rfl
    exact ⟨rfl, fun j _ h4 => h2 j (by omega)⟩
def pBd (p : Nat → Nat) : Nat → Nat → Int32 → Int32
  | 0, _, acc => acc
  | d + 1, g, acc => pBd p d (g + 1) (if p g = 0 then nI g else acc)
theorem pBd_eq {p : Nat → Nat} {G g0 : Nat} (hp : ∀ g, g < G → (p g = 0 ↔ g = g0)) : ∀ (d g : Nat) (acc : Int32), g + d = G → pBd p d g acc = if g ≤ g0 ∧ g0 < G then nI g0 else acc
  | 0, g, acc, h => by rw [if_neg (by omega)]; rfl
  | d + 1, g, acc, h => by
    unfold pBd
    rw [pBd_eq hp d (g + 1) _ (by omega)]
    by_cases e : g = g0
    · rw [if_pos ((hp g (by omega)).mpr e)]
      rw [if_neg (by omega), if_pos (by omega), e]
    · rw [if_neg (fun q => e ((hp g (by omega)).mp q))]
      by_cases h2 : g ≤ g0 ∧ g0 < G
      · rw [if_pos (by omega), if_pos h2]
      · rw [if_neg (by omega), if_neg h2]
def s3 (σ : k_S) (a c b : qA) : k_S := k_sA (k_sA (k_sA σ 11 a) 13 c) 12 b
theorem s3_step (σ : k_S) (a c b a' c' b' : qA) : k_sA (k_sA (k_sA (s3 σ a c b) 11 a') 13 c') 12 b' = s3 σ a' c' b' := by
  unfold s3 k_sA k_up
  refine Prod.ext rfl ?_
  funext j
  by_cases h1 : j = 12
  · simp [h1]
  · by_cases h2 : j = 13
    · simp [h2]
    · by_cases h3 : j = 11 <;> simp [h1, h2, h3]
theorem T_goBy_lay {σ : k_S} {G K : Nat} (hG : σ.1 3 = nI G) (hG7 : σ.1 7 = nI G) (hG5 : G ≤ 5) (hK : σ.1 6 = nI K) (hK60 : K < 60) : ∀ (d g f : Nat) (a c b : qA) (bed : Int32), g + d = G → d < f → fX0_goBy_c5 f (s3 σ a c b) bed (nI g) = fX0_goBy_c87 k_F (s3 σ (pSet (fun j => σ.2 10 (j - 5 * K)) a (5 * K + g) (5 * K + G)) (pSet (fun j => σ.2 14 (j - 5 * K)) c (5 * K + g) (5 * K + G)) (pSet (fun j => nI (qPlace G (σ.2 14) (j - 5 * K))) b (5 * K + g) (5 * K + G))) (pBd (qPlace G (σ.2 14)) d g bed) (nI 0) := by
  intro d
  induction d with
  | zero =>
    intro g f a c b bed h1 h2
    obtain ⟨f, rfl⟩ := q_fu 0 h2
    rw [fX0_goBy_c5_s, show (s3 σ a c b).1 3 = nI G from hG, if_neg (by simp (disch := omega) only [q_bn, q_ob, q_z0, q_z1, q_gd, q_cl, q_add, q_mul, q_lt, q_eq, q_eq0, q_lt0, q_0lt, q_ngl, q_ngr, q_ng0, q_ngz, q_ngn, q_ngp, q_nlt]; omega), pSet_no _ _ (by omega), pSet_no _ _ (by omega), pSet_no _ _ (by omega)]
    rfl
  | succ d ih =>
    intro g f a c b bed h1 h2
    obtain ⟨f, rfl⟩ := q_fu (d + 1) h2
    rw [fX0_goBy_c5_s, show (s3 σ a c b).1 3 = nI G from hG, if_pos (by simp (disch := omega) only [q_bn, q_ob, q_z0, q_z1, q_gd, q_cl, q_add, q_mul, q_lt, q_eq, q_eq0, q_lt0, q_0lt, q_ngl, q_ngr, q_ng0, q_ngz, q_ngn, q_ngp, q_nlt]; omega), show (s3 σ a c b).1 6 = nI K from hK]
    unfold fX0_goBy_c79
    simp (disch := omega) only [q_bn, q_ob, q_z0, q_z1, q_gd, q_cl, q_add, q_mul, q_lt, q_eq, q_eq0, q_lt0, q_0lt, q_ngl, q_ngr, q_ng0, q_ngz, q_ngn, q_ngp, q_nlt]
    rw [show K * 5 + g = 5 * K + g by omega]
    rw [show (s3 σ a c b).2 10 g = σ.2 10 g from rfl]
    have e1 : (k_sa (s3 σ a c b) 11 (nI (5 * K + g)) (σ.2 10 g)) = k_sA (s3 σ a c b) 11 (upd a (5 * K + g) (σ.2 10 g)) := by
      rw [s_sa, q_cl (by omega)]; rfl
    rw [e1]
    have e2 : (k_sa (k_sA (s3 σ a c b) 11 (upd a (5 * K + g) (σ.2 10 g))) 13 (nI (5 * K + g)) ((k_sA (s3 σ a c b) 11 (upd a (5 * K + g) (σ.2 10 g))).2 14 g)) = k_sA (k_sA (s3 σ a c b) 11 (upd a (5 * K + g) (σ.2 10 g))) 13 (upd c (5 * K + g) (σ.2 14 g)) := by
      rw [s_sa, q_cl (by omega)]; rfl
    rw [e2]
    rw [T_placeOf (σ := k_sA (k_sA (s3 σ a c b) 11 (upd a (5 * K + g) (σ.2 10 g))) 13 (upd c (5 * K + g) (σ.2 14 g))) hG7 hG5 (show g < 5 by omega), q_ob]
    have e3 : pPl ((k_sA (k_sA (s3 σ a c b) 11 (upd a (5 * K + g) (σ.2 10 g))) 13 (upd c (5 * K + g) (σ.2 14 g))).2 14) g ((k_sA (k_sA (s3 σ a c b) 11 (upd a (5 * K + g) (σ.2 10 g))) 13 (upd c (5 * K + g) (σ.2 14 g))).2 14 g) G 0 0 = qPlace G (σ.2 14) g := rfl
    rw [e3]
    have e4 : k_sa (k_sA (k_sA (s3 σ a c b) 11 (upd a (5 * K + g) (σ.2 10 g))) 13 (upd c (5 * K + g) (σ.2 14 g))) 12 (nI (5 * K + g)) (nI (qPlace G (σ.2 14) g)) = s3 σ (upd a (5 * K + g) (σ.2 10 g)) (upd c (5 * K + g) (σ.2 14 g)) (upd b (5 * K + g) (nI (qPlace G (σ.2 14) g))) := by
      rw [s_sa, q_cl (by omega)]
      exact s3_step σ a c b _ _ _
    rw [e4]
    have e5 : (s3 σ (upd a (5 * K + g) (σ.2 10 g)) (upd c (5 * K + g) (σ.2 14 g)) (upd b (5 * K + g) (nI (qPlace G (σ.2 14) g)))).2 12 (5 * K + g) = nI (qPlace G (σ.2 14) g) := pk_us
    have hle : qPlace G (σ.2 14) g ≤ 5 := by
      have := pPl_le (σ.2 14) g (σ.2 14 g) G 0 0
      unfold qPlace
      omega
    rw [e5]
    have st : ∀ (fn : qA) (old : qA) (v : Int32), v = fn (5 * K + g) → pSet fn (upd old (5 * K + g) v) (5 * K + (g + 1)) (5 * K + G) = pSet fn old (5 * K + g) (5 * K + G) := by
      intro fn old v hv
      rw [hv]
      exact pSet_step fn old (show 5 * K + g < 5 * K + G by omega)
    have hsub : 5 * K + g - 5 * K = g := by omega
    have fin : ∀ bd : Int32, fX0_goBy_c5 f (s3 σ (upd a (5 * K + g) (σ.2 10 g)) (upd c (5 * K + g) (σ.2 14 g)) (upd b (5 * K + g) (nI (qPlace G (σ.2 14) g)))) bd (nI (g + 1)) = fX0_goBy_c87 k_F (s3 σ (pSet (fun j => σ.2 10 (j - 5 * K)) a (5 * K + g) (5 * K + G)) (pSet (fun j => σ.2 14 (j - 5 * K)) c (5 * K + g) (5 * K + G)) (pSet (fun j => nI (qPlace G (σ.2 14) (j - 5 * K))) b (5 * K + g) (5 * K + G))) (pBd (qPlace G (σ.2 14)) d (g + 1) bd) (nI 0) := by
      intro bd
      rw [ih (g + 1) f _ _ _ bd (by omega) (by omega)]
      rw [st (fun j => σ.2 10 (j - 5 * K)) a _ (by show _ = σ.2 10 (5 * K + g - 5 * K); rw [hsub]), st (fun j => σ.2 14 (j - 5 * K)) c _ (by show _ = σ.2 14 (5 * K + g - 5 * K); rw [hsub]), st (fun j => nI (qPlace G (σ.2 14) (j - 5 * K))) b _ (by show _ = nI (qPlace G (σ.2 14) (5 * K + g - 5 * K)); rw [hsub])]
    unfold pBd
    by_cases hq : qPlace G (σ.2 14) g = 0
    · rw [if_pos (show nI (qPlace G (σ.2 14) g) = 0 by rw [hq]; rfl), if_pos hq]
      exact fin (nI g)
    · rw [if_neg (show ¬ nI (qPlace G (σ.2 14) g) = 0 by rw [q_eq0 (by omega)]; exact hq), if_neg hq]
      exact fin bed
/-! ===== sheets ===== -/
theorem q_0i : (nI 0 = (0 : Int32)) := rfl
theorem T_hasRow {σ : k_S} {k : Nat} (hk : k < 4) : fX2_hasRow σ (nI k) = some (if σ.2 3 k = k_ng 9 then nI 0 else nI 1, σ) := by
  unfold fX2_hasRow
  simp (disch := omega) only [q_bn, q_ob, q_z0, q_z1, q_gd, q_cl, q_add, q_mul, q_lt, q_eq, q_eq0, q_lt0, q_0lt, q_ngl, q_ngr, q_ng0, q_ngz, q_ngn, q_ngp, q_nlt]
  split <;> rfl
/-- cells that are there: from i on, n of them, of len -/
def qCells (len : Nat) (i n : Int32) : Prop := ∃ a b : Nat, i = nI a ∧ n = nI b ∧ a + b ≤ len
theorem T_hasCells {σ : k_S} {k len : Nat} (hk : k < 4) (hl : σ.2 3 k = nI len) (hlen : len ≤ 60) (i n : Int32) : (fX2_hasCells σ (nI k) i n = some (nI 1, σ) ∧ qCells len i n) ∨ (fX2_hasCells σ (nI k) i n = some (nI 0, σ) ∧ ¬ qCells len i n) := by
  unfold fX2_hasCells
  by_cases hi : i < 0
  · rw [if_pos hi]
    refine .inr ⟨rfl, ?_⟩
    rintro ⟨a, b, rfl, rfl, h⟩
    rw [q_lt0 (by omega)] at hi
    exact hi
  · by_cases hn : n < 0
    · rw [if_neg hi, if_pos hn]
      refine .inr ⟨rfl, ?_⟩
      rintro ⟨a, b, rfl, rfl, h⟩
      rw [q_lt0 (by omega)] at hn
      exact hn
    · rw [if_neg hi, if_neg hn]
      obtain ⟨a, ha, rfl⟩ := nI_of hi
      obtain ⟨b, hb, rfl⟩ := nI_of hn
      simp (disch := omega) only [q_bn, q_ob, q_z0, q_z1, q_gd, q_cl, q_add, q_mul, q_lt, q_eq, q_eq0, q_lt0, q_0lt, q_ngl, q_ngr, q_ng0, q_ngz, q_ngn, q_ngp, q_nlt, hl]
      by_cases h1 : len < b
      · rw [if_pos h1]
        refine .inr ⟨rfl, ?_⟩
        rintro ⟨a', b', e1, e2, h⟩
        rw [nI_eq hb (by omega)] at e2
        omega
      · rw [if_neg h1]
        simp (disch := omega) only [q_bn, q_ob, q_z0, q_z1, q_gd, q_cl, q_add, q_mul, q_lt, q_eq, q_eq0, q_lt0, q_0lt, q_ngl, q_ngr, q_ng0, q_ngz, q_ngn, q_ngp, q_nlt, q_sub]
        by_cases h2 : len - b < a
        · rw [if_pos h2]
          refine .inr ⟨rfl, ?_⟩
          rintro ⟨a', b', e1, e2, h⟩
          rw [nI_eq hb (by omega)] at e2
          rw [nI_eq ha (by omega)] at e1
          omega
        · rw [if_neg h2]
          exact .inl ⟨rfl, a, b, rfl, rfl, by omega⟩
/-! ===== answers, borrowed ones ===== -/
def pEnc : Option Nat → Int32
  | none => k_ng 9
  | some x => nI x
def bI (b : Bool) : Int32 := if b then nI 1 else nI 0
theorem bI_0 (b : Bool) : (bI b = 0) = (b = false) := by cases b <;> decide
def qNx (bt : Nat → Nat → Bool) (acc : Option Nat) (x : Nat) : Option Nat := match acc with
  | none => some x
  | some b => if bt x b then some x else some b
/-- the best of those that are offered, from x on -/
def pBest (off : Nat → Bool) (bt : Nat → Nat → Bool) : Nat → Nat → Option Nat → Option Nat
  | 0, _, acc => acc
  | d + 1, x, acc => pBest off bt d (x + 1) (if off x then qNx bt acc x else acc)
/-- a guest's place by a tale x, and how tall that is: which of two is better -/
def qPl (w : qA) (g G : Nat) (tl : Nat → Int32) (x : Nat) : Nat := pPl w g (tl x) G 0 0
def qBt (w : qA) (g G : Nat) (tl : Nat → Int32) (x b : Nat) : Bool := if qPl w g G tl x < qPl w g G tl b then true else if qPl w g G tl x = qPl w g G tl b then decide (tl x < tl b) else false
theorem qPl_le (w : qA) (g G : Nat) (tl : Nat → Int32) (x : Nat) (hG : G ≤ 5) : qPl w g G tl x ≤ 5 := by
  have := pPl_le w g (tl x) G 0 0
  unfold qPl
  omega
theorem T_isBetter {σ : k_S} {G g x b : Nat} (hG7 : σ.1 7 = nI G) (hG : G ≤ 5) (hg : g < 5) (hx : x < 10) (hb : b < 10) : fX6_isBetterReply σ (nI g) (nI x) (nI b) = some (bI (qBt (σ.2 14) g G (tTall σ) x b), σ) := by
  unfold fX6_isBetterReply fX6_isBetterReply_c65
  rw [T_tallOf σ hx, q_ob, q_bn, T_tallOf σ hb, q_ob, q_bn, T_placeOf hG7 hG hg, q_ob, q_bn, T_placeOf hG7 hG hg, q_ob, q_bn]
  have h1 := qPl_le (σ.2 14) g G (tTall σ) x hG
  have h2 := qPl_le (σ.2 14) g G (tTall σ) b hG
  show (if nI (qPl (σ.2 14) g G (tTall σ) x) < nI (qPl (σ.2 14) g G (tTall σ) b) then _ else if nI (qPl (σ.2 14) g G (tTall σ) x) = nI (qPl (σ.2 14) g G (tTall σ) b) then _ else _) = _
  unfold qBt
  simp only [q_lt (show qPl (σ.2 14) g G (tTall σ) x < 2 ^ 31 by omega) (show qPl (σ.2 14) g G (tTall σ) b < 2 ^ 31 by omega), q_eq (show qPl (σ.2 14) g G (tTall σ) x < 2 ^ 31 by omega) (show qPl (σ.2 14) g G (tTall σ) b < 2 ^ 31 by omega)]
  by_cases c1 : qPl (σ.2 14) g G (tTall σ) x < qPl (σ.2 14) g G (tTall σ) b
  · simp only [if_pos c1]; rfl
  · by_cases c2 : qPl (σ.2 14) g G (tTall σ) x = qPl (σ.2 14) g G (tTall σ) b
    · by_cases c3 : tTall σ x < tTall σ b
      · simp only [if_neg c1, if_pos c2, if_pos c3, decide_eq_true c3]; rfl
      · simp only [if_neg c1, if_pos c2, if_neg c3, decide_eq_false c3]; rfl
    · simp only [if_neg c1, if_neg c2]; rfl
/-- what a reply answers -/
def qAns (w : qA) (g G : Nat) (tl : Nat → Int32) (y : Int32) (res : Option Nat) : Int32 := if y = 0 then pEnc res else match res with
  | none => k_ng 9
  | some b => nI (qPl w g G tl b)
theorem pBest_lt {off : Nat → Bool} {bt : Nat → Nat → Bool} {N : Nat} : ∀ (d x : Nat) (acc : Option Nat), x + d ≤ N → (∀ b, acc = some b → b < N) → ∀ b, pBest off bt d x acc = some b → b < N
  | 0, _, _, _, h => h
  | d + 1, x, acc, h1, h => by
    unfold pBest
    refine pBest_lt d (x + 1) _ (by omega) (fun b hb => ?_)
    split at hb
    · unfold qNx at hb
      cases acc with
      | none => cases hb; omega
      | some b' =>
        dsimp only at hb
        split at hb
        · cases hb; omega
        · cases hb; exact h _ rfl
    · exact h b hb
theorem T_reply_loop {σ : k_S} {G N g : Nat} (hG7 : σ.1 7 = nI G) (hG : G ≤ 5) (hg : g < 5) (hN : σ.1 4 = nI N) (hN10 : N ≤ 10) (y fl : Int32) (off : Nat → Bool) (hoff : ∀ x, x < N → fX0_isOffered σ (nI g) (nI x) fl = some (bI (off x), σ)) : ∀ (d x f : Nat) (acc : Option Nat), x + d = N → d < f → (∀ b, acc = some b → b < N) → fX6_bestReply_c43 f σ (nI g) y fl (pEnc acc) (nI x) = some (qAns (σ.2 14) g G (tTall σ) y (pBest off (qBt (σ.2 14) g G (tTall σ)) d x acc), σ) := by
  intro d
  induction d with
  | zero =>
    intro x f acc h1 h2 hacc
    obtain ⟨f, rfl⟩ := q_fu 0 h2
    rw [fX6_bestReply_c43_s, hN, if_neg (by simp (disch := omega) only [q_bn, q_ob, q_z0, q_z1, q_gd, q_cl, q_add, q_mul, q_lt, q_eq, q_eq0, q_lt0, q_0lt, q_ngl, q_ngr, q_ng0, q_ngz, q_ngn, q_ngp, q_nlt]; omega)]
    unfold pBest qAns
    by_cases hy : y = 0
    · rw [if_pos hy, if_pos hy]
    · rw [if_neg hy, if_neg hy]
      cases acc with
      | none => exact if_pos rfl
      | some b =>
        have hb := hacc b rfl
        unfold pEnc
        rw [if_neg (by simp (disch := omega) only [q_bn, q_ob, q_z0, q_z1, q_gd, q_cl, q_add, q_mul, q_lt, q_eq, q_eq0, q_lt0, q_0lt, q_ngl, q_ngr, q_ng0, q_ngz, q_ngn, q_ngp, q_nlt]; exact not_false), T_tallOf σ (show b < 10 by omega), q_ob, T_placeOf hG7 hG hg, q_ob]
        rfl
  | succ d ih =>
    intro x f acc h1 h2 hacc
    obtain ⟨f, rfl⟩ := q_fu (d + 1) h2
    have hx : x < N := by omega
    rw [fX6_bestReply_c43_s, hN, if_pos (by simp (disch := omega) only [q_bn, q_ob, q_z0, q_z1, q_gd, q_cl, q_add, q_mul, q_lt, q_eq, q_eq0, q_lt0, q_0lt, q_ngl, q_ngr, q_ng0, q_ngz, q_ngn, q_ngp, q_nlt]; omega)]
    unfold fX6_bestReply_c91 fX6_bestReply_c95 pBest
    simp only [q_bn, q_add]
    have stay := ih (x + 1) f acc (by omega) (by omega) hacc
    have take := ih (x + 1) f (some x) (by omega) (by omega) (fun b hb => by cases hb; exact hx)
    rw [hoff x hx, q_ob]
    simp only [bI_0]
    by_cases ho : off x = true
    · rw [if_neg (by rw [ho]; decide), if_pos ho]
      unfold qNx
      cases acc with
      | none =>
        rw [if_pos (show pEnc none = k_ng 9 from rfl)]
        exact take
      | some b =>
        have hb := hacc b rfl
        rw [if_neg (show ¬ pEnc (some b) = k_ng 9 by unfold pEnc; simp (disch := omega) only [q_bn, q_ob, q_z0, q_z1, q_gd, q_cl, q_add, q_mul, q_lt, q_eq, q_eq0, q_lt0, q_0lt, q_ngl, q_ngr, q_ng0, q_ngz, q_ngn, q_ngp, q_nlt]; exact not_false)]
        rw [show pEnc (some b) = nI b from rfl, T_isBetter hG7 hG hg (show x < 10 by omega) (show b < 10 by omega), q_ob]
        simp only [bI_0]
        by_cases hb : qBt (σ.2 14) g G (tTall σ) x b = true
        · rw [if_neg (by rw [hb]; decide), if_pos hb]
          exact take
        · rw [if_pos (Bool.eq_false_iff.mpr hb), if_neg hb]
          exact stay
    · rw [if_pos (Bool.eq_false_iff.mpr ho), if_neg ho]
      exact stay
theorem pBest_congr {o1 o2 : Nat → Bool} {b1 b2 : Nat → Nat → Bool} (hb : b1 = b2) : ∀ (d x : Nat) (acc : Option Nat), (∀ j, x ≤ j → j < x + d → o1 j = o2 j) → pBest o1 b1 d x acc = pBest o2 b2 d x acc
  | 0, _, _, _ => rfl
  | d + 1, x, acc, h => by
    unfold pBest
    rw [h x (Nat.le_refl x) (by omega), hb]
    exact pBest_congr rfl d (x + 1) _ (fun j h1 h2 => h j (by omega) (by omega))
theorem qPl_congr {v w : qA} {g G : Nat} {tl : Nat → Int32} (h : ∀ j, j < G → j ≠ g → v j = w j) : qPl v g G tl = qPl w g G tl := by
  funext x
  exact pPl_congr G 0 0 (fun j _ h2 h3 => h j (by omega) h3)
theorem qBt_congr {v w : qA} {g G : Nat} {tl : Nat → Int32} (h : ∀ j, j < G → j ≠ g → v j = w j) : qBt v g G tl = qBt w g G tl := by
  funext x b
  unfold qBt
  rw [qPl_congr h]
theorem T_isOffered {σ : k_S} {g x : Nat} (hx : x < 10) (fl : Nat) (hfl : fl < 2) {o : Nat} (ho : σ.2 6 x = nI o) (ho5 : o < 5) (hg5 : g < 5) : fX0_isOffered σ (nI g) (nI x) (nI fl) = some (bI (if fl = 0 then decide (o = g ∧ ¬ tMay σ x = 0) else decide (o ≠ g ∧ ¬ tMay σ x = 0 ∧ ¬ σ.2 10 o = nI x)), σ) := by
  unfold fX0_isOffered fX0_isOffered_c43
  rw [T_isTellable σ hx, q_ob]
  by_cases hm : tMay σ x = 0
  · rw [if_pos hm]
    have : (if fl = 0 then decide (o = g ∧ ¬ tMay σ x = 0) else decide (o ≠ g ∧ ¬ tMay σ x = 0 ∧ ¬ σ.2 10 o = nI x)) = false := by
      split <;> simp [hm]
    rw [this]
    rfl
  · rw [if_neg hm]
    simp (disch := omega) only [q_bn, q_ob, q_z0, q_z1, q_gd, q_cl, q_add, q_mul, q_lt, q_eq, q_eq0, q_lt0, q_0lt, q_ngl, q_ngr, q_ng0, q_ngz, q_ngn, q_ngp, q_nlt, ho]
    by_cases h0 : fl = 0
    · rw [if_pos h0, if_pos h0]
      by_cases h1 : o = g
      · rw [if_pos h1, decide_eq_true ⟨h1, hm⟩]; rfl
      · rw [if_neg h1, decide_eq_false (fun q => h1 q.1)]; rfl
    · rw [if_neg h0, if_neg h0]
      by_cases h1 : o = g
      · rw [if_pos h1, decide_eq_false (fun q => q.1 h1)]; rfl
      · rw [if_neg h1]
        by_cases h2 : σ.2 10 o = nI x
        · rw [if_pos h2, decide_eq_false (fun q => q.2.2 h2)]; rfl
        · rw [if_neg h2, decide_eq_true ⟨h1, hm, h2⟩]; rfl
/-! ===== an inn by a text ===== -/
def gDig (v : Int32) : Bool := decide (¬ v < nI 48 ∧ ¬ nI 57 < v)
/-- whether the code at p goes on with a text -/
def gOn (c : qA) (n p : Nat) : Bool :=
  if p = 0 then decide (c 0 = nI 105) else if p = 1 then decide (¬ c 1 < nI 50 ∧ ¬ nI 53 < c 1)
  else if (p - 2) % 5 = 0 then decide (c p = nI 59 ∧ p < 52)
  else if (p - 2) % 5 = 1 then decide (c p = nI 116 ∨ c p = nI 103 ∨ c p = nI 119)
  else if (p - 2) % 5 = 2 then decide (¬ c p < nI 48 ∧ c p < c 1)
  else if (p - 2) % 5 = 3 then (gDig (c p) && decide (¬ (c p = nI 48 ∧ p + 1 < n ∧ c (p + 1) = nI 48)))
  else gDig (c p)
theorem T_isDigit (σ : k_S) (v : Int32) : fX4_isDigit σ v = some (bI (gDig v), σ) := by
  unfold fX4_isDigit gDig
  by_cases h1 : v < nI 48
  · rw [if_pos h1, decide_eq_false (fun q => q.1 h1)]; rfl
  · by_cases h2 : nI 57 < v
    · rw [if_neg h1, if_pos h2, decide_eq_false (fun q => q.2 h2)]; rfl
    · rw [if_neg h1, if_neg h2, decide_eq_true ⟨h1, h2⟩]; rfl
theorem k_z_bI {α : Type} (b : Bool) (o : Option α) : k_z (bI b) o = o := by cases b <;> rfl
theorem T_goesOn {σ : k_S} {n p : Nat} (hn : σ.1 2 = nI n) (hn60 : n ≤ 60) (hp : p < n) : fX4_goesOn σ (nI p) = some (bI (gOn (σ.2 4) n p), σ) := by
  unfold fX4_goesOn fX4_goesOn_c116 fX4_goesOn_c180
  rw [q_gd (by omega) (by decide), q_bn, q_cl (by omega)]
  unfold gOn
  by_cases p0 : p = 0
  · subst p0
    rw [if_pos q_0i, if_pos rfl]
    by_cases h : σ.2 4 0 = nI 105
    · rw [if_pos h, decide_eq_true h]; rfl
    · rw [if_neg h, decide_eq_false h]; rfl
  rw [if_neg (by rw [q_eq0 (by omega)]; exact p0), if_neg p0]
  by_cases p1 : p = 1
  · subst p1
    rw [if_pos rfl, if_pos rfl]
    by_cases h1 : σ.2 4 1 < nI 50
    · rw [if_pos h1, decide_eq_false (fun q => q.1 h1)]; rfl
    · by_cases h2 : nI 53 < σ.2 4 1
      · rw [if_neg h1, if_pos h2, decide_eq_false (fun q => q.2 h2)]; rfl
      · rw [if_neg h1, if_neg h2, decide_eq_true ⟨h1, h2⟩]; rfl
  rw [if_neg (by rw [q_eq (by omega) (by decide)]; exact p1), if_neg p1]
  have er : (nI p - nI 2 - (nI p - nI 2) / nI 5 * nI 5) = nI ((p - 2) % 5) := by
    rw [q_sub (by omega)]
    exact pk_rem (by omega) (by decide) (by decide)
  rw [er]
  have hr5 : (p - 2) % 5 < 5 := Nat.mod_lt _ (by decide)
  generalize hr : (p - 2) % 5 = r at hr5
  by_cases r0 : r = 0
  · rw [if_pos (show nI r = nI 0 by rw [r0]), if_pos r0]
    by_cases h1 : σ.2 4 p = nI 59
    · rw [if_pos h1]
      by_cases h2 : p < 52
      · rw [if_pos (nI_lt h2 (by decide)), decide_eq_true ⟨h1, h2⟩]; rfl
      · rw [if_neg (nI_nlt (by omega) (by omega)), decide_eq_false (fun q => h2 q.2)]; rfl
    · rw [if_neg h1, decide_eq_false (fun q => h1 q.1)]; rfl
  have n0 : ¬ nI r = nI 0 := by rw [q_eq (by omega) (by decide)]; exact r0
  rw [if_neg n0, if_neg r0]
  by_cases r1 : r = 1
  · rw [if_pos (show nI r = nI 1 by rw [r1]), if_pos r1]
    by_cases h1 : σ.2 4 p = nI 116
    · rw [if_pos h1, decide_eq_true (.inl h1)]; rfl
    · by_cases h2 : σ.2 4 p = nI 103
      · rw [if_neg h1, if_pos h2, decide_eq_true (.inr (.inl h2))]; rfl
      · by_cases h3 : σ.2 4 p = nI 119
        · rw [if_neg h1, if_neg h2, if_pos h3, decide_eq_true (.inr (.inr h3))]; rfl
        · rw [if_neg h1, if_neg h2, if_neg h3, decide_eq_false (by rintro (q | q | q); exact h1 q; exact h2 q; exact h3 q)]; rfl
  have n1 : ¬ nI r = nI 1 := by rw [q_eq (by omega) (by decide)]; exact r1
  rw [if_neg n1, if_neg r1]
  by_cases r2 : r = 2
  · rw [if_pos (show nI r = nI 2 by rw [r2]), if_pos r2]
    by_cases h1 : σ.2 4 p < nI 48
    · rw [if_pos h1, decide_eq_false (fun q => q.1 h1)]; rfl
    · rw [if_neg h1, q_gd (by decide) (by decide), q_cl (by decide)]
      by_cases h2 : σ.2 4 p < σ.2 4 1
      · rw [if_pos h2, decide_eq_true ⟨h1, h2⟩]; rfl
      · rw [if_neg h2, decide_eq_false (fun q => h2 q.2)]; rfl
  have n2 : ¬ nI r = nI 2 := by rw [q_eq (by omega) (by decide)]; exact r2
  rw [if_neg n2, if_neg r2]
  by_cases r3 : r = 3
  · rw [if_pos (show nI r = nI 3 by rw [r3]), if_pos r3]
    rw [T_isDigit, q_ob]
    simp only [bI_0]
    cases hd : gDig (σ.2 4 p) with
    | false => rfl
    | true =>
      rw [if_neg (by decide), Bool.true_and]
      by_cases h1 : σ.2 4 p = nI 48
      · rw [if_pos h1, hn, q_add]
        by_cases h2 : p + 1 < n
        · rw [if_pos (nI_lt h2 (by omega)), q_gd (by omega) (by decide), q_cl (by omega)]
          by_cases h3 : σ.2 4 (p + 1) = nI 48
          · rw [if_pos h3, decide_eq_false (show ¬ ¬ (_ ∧ _ ∧ _) from fun q => q ⟨h1, h2, h3⟩)]; rfl
          · rw [if_neg h3, decide_eq_true (show ¬ (_ ∧ _ ∧ _) from fun q => h3 q.2.2)]; rfl
        · rw [if_neg (nI_nlt (by omega) (by omega)), decide_eq_true (show ¬ (_ ∧ _ ∧ _) from fun q => h2 q.2.1)]; rfl
      · rw [if_neg h1, decide_eq_true (show ¬ (_ ∧ _ ∧ _) from fun q => h1 q.1)]; rfl
  have n3 : ¬ nI r = nI 3 := by rw [q_eq (by omega) (by decide)]; exact r3
  rw [if_neg n3, if_neg r3]
  rw [T_isDigit, q_ob, k_z_bI]
/-- the class's first fault -/
def gWhole (n : Nat) : Prop := 2 < n ∧ (n - 2) % 5 = 0
theorem T_firstFault {σ : k_S} {n F : Nat} (hn : σ.1 2 = nI n) (hn60 : n ≤ 60) (hF : F ≤ n) (hg : ∀ q, q < F → gOn (σ.2 4) n q = true) (hb : F < n → gOn (σ.2 4) n F = false) : (¬ (F = n ∧ gWhole n) → fX4_firstFault σ = some (nI F, σ)) ∧ (F = n → gWhole n → fX4_firstFault σ = some (k_ng 1, σ)) := by
  have key : ∀ (d p f : Nat), p + d = F → d < f → (¬ (F = n ∧ gWhole n) → fX4_firstFault_c2 f σ (nI p) = some (nI F, σ)) ∧ (F = n → gWhole n → fX4_firstFault_c2 f σ (nI p) = some (k_ng 1, σ)) := by
    intro d
    induction d with
    | zero =>
      intro p f h1 h2
      obtain ⟨f, rfl⟩ := q_fu 0 h2
      have e : p = F := by omega
      subst e
      rw [fX4_firstFault_c2_s, hn]
      by_cases hp : p < n
      · rw [if_pos (nI_lt hp (by omega)), T_goesOn hn hn60 hp, q_ob, hb hp]
        refine ⟨fun _ => rfl, fun q => by omega⟩
      · have e : p = n := by omega
        subst e
        rw [if_neg (nI_nlt (Nat.le_refl _) (by omega))]
        unfold fX4_firstFault_c49 fX4_firstFault_c50
        by_cases h3 : 2 < p
        · have er : (nI p - nI 2 - (nI p - nI 2) / nI 5 * nI 5) = nI ((p - 2) % 5) := by
            rw [q_sub (by omega)]
            exact pk_rem (by omega) (by decide) (by decide)
          rw [if_pos (nI_lt h3 (by omega)), er]
          have hr5 : (p - 2) % 5 < 5 := Nat.mod_lt _ (by decide)
          by_cases h4 : (p - 2) % 5 = 0
          · rw [if_pos (by rw [h4]; rfl), q_bn, if_neg q_n1]
            exact ⟨fun q => absurd ⟨rfl, h3, h4⟩ q, fun _ _ => rfl⟩
          · rw [if_neg (by rw [q_eq0 (by omega)]; exact h4), q_bn, if_pos q_0i, hn]
            exact ⟨fun _ => rfl, fun _ q => absurd q.2 h4⟩
        · rw [if_neg (nI_nlt (by omega) (by decide)), q_bn, if_pos q_0i, hn]
          exact ⟨fun _ => rfl, fun _ q => absurd q.1 h3⟩
    | succ d ih =>
      intro p f h1 h2
      obtain ⟨f, rfl⟩ := q_fu (d + 1) h2
      rw [fX4_firstFault_c2_s, hn, if_pos (nI_lt (by omega) (by omega)), T_goesOn hn hn60 (by omega), q_ob, hg p (by omega), if_neg (show ¬ bI true = 0 by decide), q_bn, q_add]
      exact ih (p + 1) f (by omega) (by omega)
  unfold fX4_firstFault
  rw [q_bn]
  exact key F 0 k_F (by omega) (q_kF (by omega))
-- ---- the reference reads
theorem gDig_n {v : Int32} (h : gDig v = true) : ∃ t, t ≤ 9 ∧ v = nI (48 + t) := by
  unfold gDig at h
  obtain ⟨h1, h2⟩ := of_decide_eq_true h
  have h3 : ¬ v < 0 := fun q => h1 (Int32.lt_trans q (by decide))
  obtain ⟨j, hj, rfl⟩ := nI_of h3
  rw [q_lt hj (by decide)] at h1
  rw [q_lt (by decide) hj] at h2
  exact ⟨j - 48, by omega, by rw [show 48 + (j - 48) = j by omega]⟩
/-- the tale's parts, by the codes -/
def gKind (c : qA) (x : Nat) : Int32 := if c (2 + 5 * x + 1) = nI 119 then nI 2 else if c (2 + 5 * x + 1) = nI 103 then nI 1 else nI 0
def gOwn (c : qA) (x : Nat) : Int32 := c (2 + 5 * x + 2) - nI 48
def gHigh (c : qA) (x : Nat) : Int32 := nI 10 * (c (2 + 5 * x + 3) - nI 48) + (c (2 + 5 * x + 4) - nI 48)
-- ---- the tales by the codes
theorem gTale {c : qA} {n gs x : Nat} (hg : ∀ q, q < n → gOn c n q = true) (hx : 7 + 5 * x ≤ n) (hgs : gs ≤ 5) (hc1 : c 1 = nI (gs + 48)) : (gKind c x = nI 0 ∨ gKind c x = nI 1 ∨ gKind c x = nI 2) ∧ (∃ g, g < gs ∧ gOwn c x = nI g) ∧ ∃ h, 1 ≤ h ∧ h ≤ 99 ∧ gHigh c x = nI h := by
  have g2 := hg (2 + 5 * x + 2) (by omega)
  have g3 := hg (2 + 5 * x + 3) (by omega)
  have g4 := hg (2 + 5 * x + 4) (by omega)
  unfold gOn at g2 g3 g4
  rw [if_neg (by omega), if_neg (by omega), if_neg (by omega), if_neg (by omega), if_pos (by omega), decide_eq_true_iff, hc1] at g2
  rw [if_neg (by omega), if_neg (by omega), if_neg (by omega), if_neg (by omega), if_neg (by omega), if_pos (by omega), Bool.and_eq_true, decide_eq_true_iff] at g3
  rw [if_neg (by omega), if_neg (by omega), if_neg (by omega), if_neg (by omega), if_neg (by omega), if_neg (by omega)] at g4
  have hd2 : gDig (c (2 + 5 * x + 2)) = true := decide_eq_true ⟨g2.1, fun q => by
    have := Int32.lt_trans q g2.2
    rw [q_lt (by decide) (by omega)] at this
    omega⟩
  obtain ⟨t, ht, et⟩ := gDig_n hd2
  obtain ⟨t3, ht3, e3⟩ := gDig_n g3.1
  obtain ⟨t4, ht4, e4⟩ := gDig_n g4
  refine ⟨?_, ⟨t, ?_, ?_⟩, 10 * t3 + t4, ?_, by omega, ?_⟩
  · unfold gKind
    repeat' split
    · exact .inr (.inr rfl)
    · exact .inr (.inl rfl)
    · exact .inl rfl
  · have := g2.2
    rw [et, q_lt (by omega) (by omega)] at this
    omega
  · unfold gOwn
    rw [et, q_sub (by omega), show 48 + t - 48 = t by omega]
  · refine Nat.pos_of_ne_zero fun q => g3.2 ⟨?_, by omega, ?_⟩
    · rw [e3, show t3 = 0 by omega]
    · rw [show 2 + 5 * x + 3 + 1 = 2 + 5 * x + 4 by omega, e4, show t4 = 0 by omega]
  · unfold gHigh
    rw [e3, e4, q_sub (by omega), q_sub (by omega), q_mul, q_add, show 48 + t3 - 48 = t3 by omega, show 48 + t4 - 48 = t4 by omega]

-- ---- the class opens
theorem T_kindOf {σ : k_S} {x : Nat} (hx : x < 10) : fX4_kindOf σ (nI x) = some (gKind (σ.2 4) x, σ) := by
  unfold fX4_kindOf gKind
  simp (disch := omega) only [q_bn, q_ob, q_z0, q_z1, q_gd, q_cl, q_add, q_mul, q_lt, q_eq, q_eq0, q_lt0, q_0lt, q_ngl, q_ngr, q_ng0, q_ngz, q_ngn, q_ngp, q_nlt]
  rw [show 2 + x * 5 + 1 = 2 + 5 * x + 1 by omega]
  repeat' split
  all_goals rfl
theorem T_ownerOf {σ : k_S} {x : Nat} (hx : x < 10) : fX4_ownerOf σ (nI x) = some (gOwn (σ.2 4) x, σ) := by
  unfold fX4_ownerOf gOwn
  simp (disch := omega) only [q_bn, q_ob, q_z0, q_z1, q_gd, q_cl, q_add, q_mul, q_lt, q_eq, q_eq0, q_lt0, q_0lt, q_ngl, q_ngr, q_ng0, q_ngz, q_ngn, q_ngp, q_nlt]
  rw [show 2 + x * 5 + 2 = 2 + 5 * x + 2 by omega]
theorem T_heightOf {σ : k_S} {x : Nat} (hx : x < 10) : fX4_heightOf σ (nI x) = some (gHigh (σ.2 4) x, σ) := by
  unfold fX4_heightOf gHigh
  simp (disch := omega) only [q_bn, q_ob, q_z0, q_z1, q_gd, q_cl, q_add, q_mul, q_lt, q_eq, q_eq0, q_lt0, q_0lt, q_ngl, q_ngr, q_ng0, q_ngz, q_ngn, q_ngp, q_nlt]
  rw [show 2 + x * 5 + 3 = 2 + 5 * x + 3 by omega, show 2 + 5 * x + 3 + 1 = 2 + 5 * x + 4 by omega]
  rw [Int32.mul_comm, Int32.sub_eq_add_neg, Int32.add_assoc, ← Int32.sub_eq_add_neg]
def tO (σ : k_S) (a b c : qA) : k_S := k_sA (k_sA (k_sA σ 5 a) 6 b) 7 c
theorem tO_st (σ : k_S) (a b c a' b' c' : qA) : k_sA (k_sA (k_sA (tO σ a b c) 5 a') 6 b') 7 c' = tO σ a' b' c' := by
  unfold tO k_sA k_up
  refine Prod.ext rfl (funext fun j => ?_)
  by_cases h5 : j = 5
  · subst h5; rfl
  · by_cases h6 : j = 6
    · subst h6; rfl
    · by_cases h7 : j = 7
      · subst h7; rfl
      · simp [h5, h6, h7]
theorem tO_id (σ : k_S) : tO σ (σ.2 5) (σ.2 6) (σ.2 7) = σ := by
  unfold tO k_sA k_up
  refine Prod.ext rfl (funext fun j => ?_)
  by_cases h5 : j = 5
  · subst h5; rfl
  · by_cases h6 : j = 6
    · subst h6; rfl
    · by_cases h7 : j = 7
      · subst h7; rfl
      · simp [h5, h6, h7]
theorem T_open {σ : k_S} {G N K n : Nat} (hn : σ.1 2 = nI n) (hnN : n = 2 + 5 * N) (hN : N ≤ 10) (hG5 : G ≤ 5) (hc1 : σ.2 4 1 = nI (G + 48)) (hK : σ.1 6 = nI K) (hK60 : K ≤ 60) (ht : hTail (σ.2 8, σ.2 9)) : fX0_open σ = some ((), s89 (k_sA (k_sf (k_sf (tO (k_sf (k_sf σ 3 (nI G)) 4 (nI N)) (pSet (gKind (σ.2 4)) (σ.2 5) 0 N) (pSet (gOwn (σ.2 4)) (σ.2 6) 0 N) (pSet (gHigh (σ.2 4)) (σ.2 7) 0 N)) 5 (nI 99)) 6 (nI 0)) 10 (k_fl (σ.2 10) 0 5 (k_ng 9))) hZ) := by
  let σ0 : k_S := k_sf (k_sf σ 3 (nI G)) 4 (nI N)
  have key : ∀ (d x f : Nat) (a b c : qA), x + d = N → d < f → fX0_open_c18 f (tO σ0 a b c) (nI x) = some ((), s89 (k_sA (k_sf (k_sf (tO σ0 (pSet (gKind (σ.2 4)) a x N) (pSet (gOwn (σ.2 4)) b x N) (pSet (gHigh (σ.2 4)) c x N)) 5 (nI 99)) 6 (nI 0)) 10 (k_fl (σ.2 10) 0 5 (k_ng 9))) hZ) := by
    intro d
    induction d with
    | zero =>
      intro x f a b c h1 h2
      obtain ⟨f, rfl⟩ := q_fu 0 h2
      rw [fX0_open_c18_s, show (tO σ0 a b c).1 4 = nI N from rfl, if_neg (nI_nlt (by omega) (by omega)), q_bn]
      rw [pSet_no _ _ (by omega), pSet_no _ _ (by omega), pSet_no _ _ (by omega)]
      have e1 : (k_sf (tO σ0 a b c) 5 (nI 99)).1 6 = nI K := hK
      rw [e1, T_goBack (σ := k_sf (tO σ0 a b c) 5 (nI 99)) (G := G) (N := N) (K := K) rfl hG5 rfl hN hK hK60 (Nat.le_refl K) (fun i j hi => by omega) ht, q_ob, Nat.sub_self]
      rfl
    | succ d ih =>
      intro x f a b c h1 h2
      obtain ⟨f, rfl⟩ := q_fu (d + 1) h2
      rw [fX0_open_c18_s, show (tO σ0 a b c).1 4 = nI N from rfl, if_pos (nI_lt (by omega) (by omega))]
      rw [T_kindOf (by omega), q_ob, q_gd (by omega) (by decide), q_bn, s_sa, q_cl (by omega), T_ownerOf (by omega), q_ob, q_gd (by omega) (by decide), q_bn, s_sa, q_cl (by omega), T_heightOf (by omega), q_ob, q_gd (by omega) (by decide), q_bn, s_sa, q_cl (by omega), q_bn, q_add]
      have := ih (x + 1) f (upd a x (gKind (σ.2 4) x)) (upd b x (gOwn (σ.2 4) x)) (upd c x (gHigh (σ.2 4) x)) (by omega) (by omega)
      rw [pSet_step _ _ (by omega), pSet_step _ _ (by omega), pSet_step _ _ (by omega)] at this
      rw [← this]
      refine congrArg (fun T => fX0_open_c18 f T (nI (x + 1))) ?_
      exact tO_st σ0 a b c _ _ _
  unfold fX0_open fX4_guests fX4_tales
  rw [q_gd (by decide) (by decide), q_ob, q_bn]
  rw [show Int32.toNatClampNeg (nI 1) = 1 from q_cl (by decide), hc1, q_sub (by omega), show G + 48 - 48 = G by omega]
  rw [show (k_sf σ 3 (nI G)).1 2 = nI n from hn, q_sub (by omega), pk_div (by omega) (by decide) (by decide), q_ob, q_bn, q_bn]
  rw [show (n - 2) / 5 = N by omega]
  have := key N 0 k_F (σ.2 5) (σ.2 6) (σ.2 7) (by omega) (q_kF (by omega))
  rw [show tO σ0 (σ.2 5) (σ.2 6) (σ.2 7) = σ0 from tO_id σ0] at this
  exact this
theorem pSet_eq {f f' o o' : qA} {N : Nat} (h : ∀ j, j < N → f j = f' j) (ho : o = o') : pSet f o 0 N = pSet f' o' 0 N := by
  funext j
  unfold pSet
  by_cases hj : 0 ≤ j ∧ j < N
  · rw [if_pos hj, if_pos hj]; exact h j hj.2
  · rw [if_neg hj, if_neg hj, ho]
