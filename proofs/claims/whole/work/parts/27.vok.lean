/-! every state that comes of a call is as a state may be -/
def vWk (V : VSt) : Prop := vOk V ∧ ∀ k, isBy (vTape V k)
section
variable {V : VSt}
theorem vOk.st {t : Int32} (h : vOk V) : vOk (setT V t) := h
theorem vWk.st {t : Int32} (h : vWk V) : vWk (setT V t) := h
theorem vOk.up {now : List Row} {past img : List (List Row)} {t : Int32} (h : vOk V) (hs : ¬ vLed V = none) (h1 : vT' (lw (vLed V)) now) (h2 : ∀ T, T ∈ past → vT' (lw (vLed V)) T) (h3 : past.length ≤ 16) (h4 : ∀ T, T ∈ img → vT' (lw (vLed V)) T) (h5 : img.length ≤ 3) : vOk (setT (upV V now past img) t) := ⟨h.1, h1, fun z => absurd z hs, h2, h3, h4, h5, h.2.2.2.2.2.2.2⟩
theorem pastN_ok (h : vOk V) : (∀ T, T ∈ pastN V → vT' (lw (vLed V)) T) ∧ (pastN V).length ≤ 16 := by
  refine ⟨fun T hT => ?_, pastN_len h.2.2.2.2.1⟩
  unfold pastN at hT
  rcases List.mem_append.mp hT with w | w
  · split at w
    · exact h.2.2.2.1 T (List.mem_of_mem_drop w)
    · exact h.2.2.2.1 T w
  · rw [List.mem_singleton.mp w]
    exact h.2.1
theorem vOk.some1 {i : Nat} (h : vOk V) (hi : i < (vNow V).length) : ¬ vLed V = none := fun z => by
  rw [(h.2.2.1 z).1] at hi
  exact absurd hi (Nat.not_lt_zero _)
theorem papB_s {p : Int32} (h : papB V p = true) : ¬ vLed V = none := fun z => by
  unfold papB at h
  rw [z] at h
  exact absurd h (by simp)
theorem vOk.tell {x : Row} (h : vOk V) (hs : ¬ vLed V = none) (hx : vRow x) (hl : (vNow V).length < 24) (h2 : x.1 = 2 → spl (vNow V) (vNow V).length < 4) : vOk (uTell V x).1 := by
  unfold uTell
  cases c : shortT (lw (vLed V)) 999 (vNow V ++ [x])
  · rw [if_neg (by decide)]
    exact h.up hs ⟨vT_add h.2.1.1 hx hl h2, c⟩ (pastN_ok h).1 (pastN_ok h).2 h.2.2.2.2.2.1 h.2.2.2.2.2.2.1
  · rw [if_pos rfl]
    exact h.st
theorem rtC_z {p : Int32} {num : Bool} (h : vOk V) (hr : rtC V p num = 0) : papB V p = true ∧ num = true ∧ (vNow V).length < 24 := by
  have hl := h.2.1.1.2.2
  unfold rtC at hr
  cases c : papB V p
  · rw [c, if_neg (by decide)] at hr
    exact absurd hr (by decide)
  · rw [c, if_pos rfl] at hr
    cases c1 : num
    · rw [c1, if_neg (by decide)] at hr
      exact absurd hr (by decide)
    · rw [c1, if_pos rfl] at hr
      refine ⟨rfl, rfl, ?_⟩
      by_cases e : (vNow V).length = 24
      · rw [if_pos e] at hr
        exact absurd hr (by decide)
      · omega
theorem vOk.buy {p y sh pr : Int32} (h : vOk V) : vOk (uBuy V p y sh pr).1 := by
  unfold uBuy
  by_cases c : rtC V p (dealB y sh pr) = 0
  · rw [if_pos c]
    obtain ⟨c1, c2, c3⟩ := rtC_z h c
    obtain ⟨r1, r2⟩ := deal_row c1 c2 (Or.inl ⟨rfl, rfl⟩)
    exact h.tell (papB_s c1) r1 c3 (fun z => absurd z r2)
  · rw [if_neg c]
    exact h.st
theorem vOk.sell {p y sh pr ru : Int32} (h : vOk V) : vOk (uSell V p y sh pr ru).1 := by
  unfold uSell
  cases c0 : inB ru 0 3
  · rw [if_neg (by decide)]
    exact h.st
  · rw [if_pos rfl]
    by_cases c : rtC V p (dealB y sh pr) = 0
    · rw [if_pos c]
      obtain ⟨c1, c2, c3⟩ := rtC_z h c
      obtain ⟨r1, r2⟩ := deal_row c1 c2 (Or.inr ⟨rfl, c0⟩)
      exact h.tell (papB_s c1) r1 c3 (fun z => absurd z r2)
    · rw [if_neg c]
      exact h.st
theorem vOk.split {p y a b : Int32} (h : vOk V) : vOk (uSplit V p y a b).1 := by
  unfold uSplit
  by_cases c : rtC V p (numB y a b) = 0
  · rw [if_pos c]
    obtain ⟨c1, c2, c3⟩ := rtC_z h c
    by_cases c4 : spl (vNow V) (vNow V).length = 4
    · rw [if_pos c4]
      exact h.st
    · rw [if_neg c4]
      have := h.2.1.1.2.1
      exact h.tell (papB_s c1) (split_row c1 c2) c3 (fun _ => by omega)
  · rw [if_neg c]
    exact h.st
theorem vOk.strike {t : Int32} (h : vOk V) : vOk (uStrike V t).1 := by
  unfold uStrike
  have hl := h.2.1.1.2.2
  cases c : hasT (vNow V) t
  · rw [if_neg (by decide)]
    exact h.st
  · rw [if_pos rfl]
    obtain ⟨i, hi, e⟩ := hasT_i (by omega) c
    have ep : pN t = i := by rw [e]; exact cl_n (by omega)
    rw [ep]
    cases cs : shortT (lw (vLed V)) 999 ((vNow V).eraseIdx i)
    · rw [if_neg (by decide)]
      exact h.up (h.some1 hi) ⟨vT_del h.2.1.1 hi, cs⟩ (pastN_ok h).1 (pastN_ok h).2 h.2.2.2.2.2.1 h.2.2.2.2.2.2.1
    · rw [if_pos rfl]
      exact h.st
theorem vOk.rule {t r : Int32} (h : vOk V) : vOk (uRule V t r).1 := by
  unfold uRule
  have hl := h.2.1.1.2.2
  cases c : (isSellT (vNow V) t && inB r 0 3)
  · rw [if_neg (by decide)]
    exact h.st
  · rw [if_pos rfl]
    obtain ⟨c1, c2⟩ := Bool.and_eq_true_iff.mp c
    obtain ⟨i, hi, e, es⟩ := isSellT_i (by omega) c1
    obtain ⟨u, hu, eu⟩ := inB_i (n := 3) (by omega) rfl c2
    have ep : pN t = i := by rw [e]; exact cl_n (by omega)
    rw [ep, eu]
    cases cs : shortT (lw (vLed V)) 999 (ruT (vNow V) i (nI u))
    · rw [if_neg (by decide)]
      exact h.up (h.some1 hi) ⟨vT_ru h.2.1.1 hi es hu, cs⟩ (pastN_ok h).1 (pastN_ok h).2 h.2.2.2.2.2.1 h.2.2.2.2.2.2.1
    · rw [if_pos rfl]
      exact h.st
theorem vOk.undo (h : vOk V) : vOk (uUndo V) := by
  unfold uUndo
  have hl := h.2.2.2.2.1
  by_cases c : (vPast V).length = 0
  · rw [if_pos c]
    exact h.st
  · rw [if_neg c]
    refine h.up (fun z => c (by rw [(h.2.2.1 z).2.1]; rfl)) (h.2.2.2.1 _ (rg_mem (by omega))) (fun T hT => h.2.2.2.1 T (List.mem_of_mem_take hT)) ?_ h.2.2.2.2.2.1 h.2.2.2.2.2.2.1
    rw [List.length_take]
    omega
theorem vOk.image (h : vOk V) : vOk (uImage V).1 := by
  unfold uImage
  have hl := h.2.2.2.2.2.2.1
  cases c : (vLed V).isSome
  · rw [if_neg (by decide)]
    exact h.st
  · rw [if_pos rfl]
    by_cases c3 : (vImg V).length = 3
    · rw [if_pos c3]
      exact h.st
    · rw [if_neg c3]
      refine h.up (fun z => by rw [z] at c; cases c) h.2.1 h.2.2.2.1 h.2.2.2.2.1 (fun T hT => ?_) (by rw [List.length_append, List.length_singleton]; omega)
      rcases List.mem_append.mp hT with w | w
      · exact h.2.2.2.2.2.1 T w
      · rw [List.mem_singleton.mp w]
        exact h.2.1
theorem vOk.back {i : Int32} (h : vOk V) : vOk (uBack V i) := by
  unfold uBack
  have hl := h.2.2.2.2.2.2.1
  cases c : bkB V i
  · rw [if_neg (by decide)]
    exact h.st
  · rw [if_pos rfl]
    have c' := of_decide_eq_true c
    obtain ⟨k, hk, e⟩ := nI_idx (n := (vImg V).length) (by omega) c'.1 (Int32.not_le.mpr c'.2)
    have ep : pN i = k := by rw [e]; exact cl_n (by omega)
    rw [ep]
    exact h.up (fun z => by rw [(h.2.2.1 z).2.2] at hk; exact absurd hk (Nat.not_lt_zero _)) (h.2.2.2.2.2.1 _ (rg_mem hk)) (fun T hT => by cases hT) (Nat.zero_le _) h.2.2.2.2.2.1 hl
theorem isBy_8 (c : Int8) : isBy c.toInt32 := by
  unfold isBy
  rw [Int8.toInt8_toInt32]
theorem vWk.feed {a b c d e : Int32} (h : vWk V) : vWk (uFeed V a b c d e).1 := by
  unfold uFeed
  by_cases z : vN V + 20 ≤ 900
  · rw [if_pos z]
    refine ⟨⟨h.1.1, h.1.2.1, h.1.2.2.1, h.1.2.2.2.1, h.1.2.2.2.2.1, h.1.2.2.2.2.2.1, h.1.2.2.2.2.2.2.1, z⟩, fun k => ?_⟩
    show isBy (tpF V a b c d e 20 k)
    unfold tpF
    split
    · exact isBy_8 _
    · exact h.2 k
  · rw [if_neg z]
    exact h
theorem raG_i {tp : Nat → Int32} {n : Nat} : ∀ (g : Nat) {p : Psr} {bg : Bool} {td : Tld}, iTd bg td → iTd (raG tp n g p bg td).2.1 (raG tp n g p bg td).2.2
  | 0, _, _, _, h => h
  | g + 1, p, bg, td, h => by
    unfold raG
    split
    · exact raG_i g h.li
    · exact h.li
theorem vWk.led {x nu : Int32} {wd : Int64} {wr : Int32} (h : vWk V) : vWk (uLed V x nu wd wr).1 := by
  unfold uLed
  by_cases z : x < 0
  · rw [if_pos z]
    exact h
  · rw [if_neg z]
    by_cases z1 : x ≤ nI (vN V)
    · rw [if_pos z1]
      have fo := txR_fo (tp := vTape V) (n := x.toNatClampNeg) (nu := nu) (wd := wd) (wr := wr)
      have it : iTd (txR (vTape V) x.toNatClampNeg nu wd wr).2.1 (txR (vTape V) x.toNatClampNeg nu wd wr).2.2 := raG_i _ iTd0
      have gd := exR_good (R := txR (vTape V) x.toNatClampNeg nu wd wr)
      generalize txR (vTape V) x.toNatClampNeg nu wd wr = R at fo it gd
      by_cases z2 : (exR R).2.1 ≤ 0
      · rw [if_pos z2]
        have n5 : ¬ (exR R).1.2.1 = 5 := fun c => fo.1 c z2
        have sh := gd n5
        exact ⟨⟨fun td e => by cases e; exact it.1.v sh, ⟨it.1.2.1, sh⟩, fun c => (by cases c), fun T hT => (by cases hT), Nat.zero_le _, fun T hT => (by cases hT), Nat.zero_le _, Nat.zero_le _⟩, h.2⟩
      · rw [if_neg z2]
        exact ⟨⟨h.1.1, h.1.2.1, h.1.2.2.1, h.1.2.2.2.1, h.1.2.2.2.2.1, h.1.2.2.2.2.2.1, h.1.2.2.2.2.2.2.1, Nat.zero_le _⟩, h.2⟩
    · rw [if_neg z1]
      exact h
theorem vWk0 : vWk V0 := ⟨⟨fun td e => (by cases e), ⟨iTd0.1.2.1, rfl⟩, fun _ => ⟨rfl, rfl, rfl⟩, fun T hT => (by cases hT), Nat.zero_le _, fun T hT => (by cases hT), Nat.zero_le _, Nat.zero_le _⟩, fun _ => (show isBy 0 by unfold isBy; decide)⟩
theorem tell_tp {x : Row} : vTape (uTell V x).1 = vTape V := by
  unfold uTell
  split <;> rfl
theorem vWk.of {V' : VSt} (h : vWk V) (h1 : vOk V') (e : vTape V' = vTape V) : vWk V' := ⟨h1, by rw [e]; exact h.2⟩
theorem vWk.buy {p y sh pr : Int32} (h : vWk V) : vWk (uBuy V p y sh pr).1 := h.of h.1.buy (by unfold uBuy; split; exact tell_tp; rfl)
theorem vWk.sell {p y sh pr ru : Int32} (h : vWk V) : vWk (uSell V p y sh pr ru).1 := h.of h.1.sell (by unfold uSell; split; (split; exact tell_tp; rfl); rfl)
theorem vWk.split {p y a b : Int32} (h : vWk V) : vWk (uSplit V p y a b).1 := h.of h.1.split (by unfold uSplit; split; (split; rfl; exact tell_tp); rfl)
theorem vWk.strike {t : Int32} (h : vWk V) : vWk (uStrike V t).1 := h.of h.1.strike (by unfold uStrike; split; (split <;> rfl); rfl)
theorem vWk.rule {t r : Int32} (h : vWk V) : vWk (uRule V t r).1 := h.of h.1.rule (by unfold uRule; split; (split <;> rfl); rfl)
theorem vWk.undo (h : vWk V) : vWk (uUndo V) := h.of h.1.undo (by unfold uUndo; split <;> rfl)
theorem vWk.image (h : vWk V) : vWk (uImage V).1 := h.of h.1.image (by unfold uImage; split; (split <;> rfl); rfl)
theorem vWk.back {i : Int32} (h : vWk V) : vWk (uBack V i) := h.of h.1.back (by unfold uBack; split <;> rfl)
end
