/-! LotLedgerLaw.led on the machine: it catches what LotLedger.led throws -/
def AmK (b0 : Nat) (H0 : Heap) (sa : Nat) (U : State) : Prop := AmL b0 H0 sa U ∧ va_Nw (.castable nseN nseN) U
theorem AmK.warm {b0 : Nat} {H0 : Heap} {sa : Nat} {s U : State} (h : AmK b0 H0 sa s) (hW : s.WarmedH U.vm) : AmK b0 H0 sa U := ⟨h.1.warm hW, h.2.warmC hW⟩
theorem AmK.same {b0 : Nat} {H0 : Heap} {sa : Nat} {s U : State} (h : AmK b0 H0 sa s) (hv : s.vm = U.vm) : AmK b0 H0 sa U := ⟨h.1.same hv, h.2.same rfl hv⟩
section LledA
variable {p : Program} {l : Launch} {e : Env} {R : Room} {s : State} {m : MethodId} {args : Array Value} {below : List Frame} {meth : Method} {c : Code} {H : Heap} {locs : List Loc} {cells slots : Nat} {Q : State → Prop} {b0 : Nat} {H0 : Heap} {D : va_G} {cy : Nat → ClassId} {ad adV : Nat → Nat} {c0 s0 : Nat} {cap : Nat × Nat} {A : qA} {S : qS} {arr : Array Slot} {rest st0 : List Value} {own : String} {cc : ByteArray} {nL pc : Nat}
theorem q_runX {K : qK} {av : Array Value} (X : MX p R s m args meth c own cc nL b0 H0 D cy ad adV c0 s0 cap) (hr : vx_Run p l e R s m args below meth c H locs cells slots 1 8 (F0 m pc arr st0) rest (QcI b0 H0 D cy ad A K av) (XcM b0 H0 D cy ad A K) (fun q => b0 ≤ q)) (hS : va_S (fun q => b0 ≤ q) s.heap H locs)
    (kk : ∀ (r : Int32) (A' : qA) (S' : qS) (H' : Heap) (locs' : List Loc), K (some (.int r)) A' S' → A'.2.2.1 = A.2.2.1 + 1 → A'.2.2.2 = A.2.2.2 + 8 → Hp b0 H0 D cy ad A' S' H' → va_S (fun q => b0 ≤ q) s.heap H' locs' → W p l e R s m args below meth c H' locs' (cells + 1) (slots + 8) Q (F0 m (pc + 3) arr (.int r :: rest)))
    (kx : ∀ (q : Addr) (ce : Cell) (A' : qA) (S' : qS) (H' : Heap) (locs' : List Loc), K (some .null) A' S' → A'.2.2.1 = A.2.2.1 + 1 → A'.2.2.2 = A.2.2.2 + 8 → Hp b0 H0 D cy ad A' S' H' → va_S (fun q => b0 ≤ q) s.heap H' locs' → H'[q]? = some ce → ce.vm = .none → s.vm.findClass nseN = some ce.cls → vx_W p l e R s m args below meth c H' locs' (cells + 1) (slots + 8) Q (F0 m pc arr rest) q) : W p l e R s m args below meth c H locs cells slots Q (F0 m pc arr st0) := by
  intro T hT X0
  have key : ∀ {st₀ t : State} {L : List Loc} {A' : qA} {S' : qS}, st₀.heap = H → (∀ q ∈ L, b0 ≤ q.base) → Hp b0 H0 D cy ad A' S' t.heap → st₀.heap.size ≤ t.heap.size → va_S (fun q => b0 ≤ q) s.heap t.heap (locs ++ L) := by
    intro st₀ t L A' S' h0 hL hH' hz
    refine ⟨Nat.le_trans hS.1 (by rw [← h0]; exact hz), fun q h1 h2 => ?_, fun q hq => ?_⟩
    · have hq : q < b0 := Nat.not_le.mp h2
      rw [hH'.2.2.1 q hq, X.2.2.2.2.2.2.2.2.2.2.2 q hq]
    · rcases List.mem_append.mp hq with h | h
      · exact hS.2.2 q h
      · exact hL q h
  rcases hr T hT X0 with ⟨v, st₀, t, T', L, h0, X', hL, e1, e2, ⟨r, A', S', hv, hK, hc, hs, hH', hz⟩, st⟩ | ⟨q, st₀, t, T', L, E, ce, h0, X', hL, e1, e2, ⟨rfl, A', S', hK, hc, hs, hH', hz⟩, hce, hcv, hcl, st⟩
  · cases hv
    obtain ⟨t2, a1, b1⟩ := kk r A' S' t.heap (locs ++ L) hK hc hs hH' (key h0 hL hH' hz) T' e1 X'
    exact ⟨t2, st t2 a1, b1⟩
  · obtain ⟨t2, a1, b1⟩ := kx q ce A' S' t.heap (locs ++ L) hK hc hs hH' (key h0 hL hH' hz) hce hcv hcl T' e1 X'
    exact ⟨t2, st.trans a1, b1⟩
end LledA
set_option maxRecDepth 100000 in
theorem llW_in : ∀ w ∈ ([.methodLink RL 7 yX9_led, .code yX9_led cX9_led 4 (some .int), .initialized RX9, .instanceMethod yX9_led, .selects RX9 yX9_led yX9_led, .classLink RL 13 nseN, .codeWith yL_led cL_led 4 (some .int) [(0, 9, 12, 13)], .methodLink RL 215 yL_led, .static yL_led, .initialized RL] : List Cond), w ∈ lw_tbl ∧ goodWord w = true := by decide +kernel
