/-! ===== pure: how many bits ===== -/
def pcB (w : Nat) : Nat → Nat
  | 0 => 0
  | k + 1 => pcB w k + (if w.testBit k = true then 1 else 0)
def popOk (w : Nat) : Bool := decide (f_Mo_bits (nI w) = some (nI (pcB w 14)) ∧ f_Integer_bitCount (nI w) = nI (pcB w 14))
def popAll : Nat → Nat → Bool
  | 0, _ => true
  | m + 1, w => popOk w && popAll m (w + 1)
theorem popAll_ok : ∀ (m w : Nat), popAll m w = true → ∀ q : Nat, w ≤ q → q < w + m → popOk q = true := by
  intro m
  induction m with
  | zero => intro w _ q a b; omega
  | succ m ih =>
    intro w h q a b
    unfold popAll at h
    rw [Bool.and_eq_true] at h
    rcases Nat.eq_or_lt_of_le a with e | e
    · subst e; exact h.1
    · exact ih (w + 1) h.2 q e (by omega)
theorem pop0 : popAll 512 0 = true := by decide +kernel
theorem pop1 : popAll 512 512 = true := by decide +kernel
theorem pop2 : popAll 512 1024 = true := by decide +kernel
theorem pop3 : popAll 512 1536 = true := by decide +kernel
theorem pop4 : popAll 512 2048 = true := by decide +kernel
theorem pop5 : popAll 512 2560 = true := by decide +kernel
theorem pop6 : popAll 512 3072 = true := by decide +kernel
theorem pop7 : popAll 512 3584 = true := by decide +kernel
theorem pop8 : popAll 512 4096 = true := by decide +kernel
theorem pop9 : popAll 512 4608 = true := by decide +kernel
theorem pop10 : popAll 512 5120 = true := by decide +kernel
theorem pop11 : popAll 512 5632 = true := by decide +kernel
theorem pop12 : popAll 512 6144 = true := by decide +kernel
theorem pop13 : popAll 512 6656 = true := by decide +kernel
theorem pop14 : popAll 512 7168 = true := by decide +kernel
theorem pop15 : popAll 512 7680 = true := by decide +kernel
theorem pop16 : popAll 512 8192 = true := by decide +kernel
theorem pop17 : popAll 512 8704 = true := by decide +kernel
theorem pop18 : popAll 512 9216 = true := by decide +kernel
theorem pop19 : popAll 512 9728 = true := by decide +kernel
theorem pop20 : popAll 512 10240 = true := by decide +kernel
theorem pop21 : popAll 512 10752 = true := by decide +kernel
theorem pop22 : popAll 512 11264 = true := by decide +kernel
theorem pop23 : popAll 512 11776 = true := by decide +kernel
theorem pop24 : popAll 512 12288 = true := by decide +kernel
theorem pop25 : popAll 512 12800 = true := by decide +kernel
theorem pop26 : popAll 512 13312 = true := by decide +kernel
theorem pop27 : popAll 512 13824 = true := by decide +kernel
theorem pop28 : popAll 512 14336 = true := by decide +kernel
theorem pop29 : popAll 512 14848 = true := by decide +kernel
theorem pop30 : popAll 512 15360 = true := by decide +kernel
theorem pop31 : popAll 512 15872 = true := by decide +kernel
theorem popW {w : Nat} (hw : w < 16384) : popOk w = true := by
  rcases Nat.lt_or_ge w 8192 with h16 | h16
  · rcases Nat.lt_or_ge w 4096 with h8 | h8
    · rcases Nat.lt_or_ge w 2048 with h4 | h4
      · rcases Nat.lt_or_ge w 1024 with h2 | h2
        · rcases Nat.lt_or_ge w 512 with h1 | h1
          · exact popAll_ok 512 0 pop0 w (by omega) (by omega)
          · exact popAll_ok 512 512 pop1 w (by omega) (by omega)
        · rcases Nat.lt_or_ge w 1536 with h3 | h3
          · exact popAll_ok 512 1024 pop2 w (by omega) (by omega)
          · exact popAll_ok 512 1536 pop3 w (by omega) (by omega)
      · rcases Nat.lt_or_ge w 3072 with h6 | h6
        · rcases Nat.lt_or_ge w 2560 with h5 | h5
          · exact popAll_ok 512 2048 pop4 w (by omega) (by omega)
          · exact popAll_ok 512 2560 pop5 w (by omega) (by omega)
        · rcases Nat.lt_or_ge w 3584 with h7 | h7
          · exact popAll_ok 512 3072 pop6 w (by omega) (by omega)
          · exact popAll_ok 512 3584 pop7 w (by omega) (by omega)
    · rcases Nat.lt_or_ge w 6144 with h12 | h12
      · rcases Nat.lt_or_ge w 5120 with h10 | h10
        · rcases Nat.lt_or_ge w 4608 with h9 | h9
          · exact popAll_ok 512 4096 pop8 w (by omega) (by omega)
          · exact popAll_ok 512 4608 pop9 w (by omega) (by omega)
        · rcases Nat.lt_or_ge w 5632 with h11 | h11
          · exact popAll_ok 512 5120 pop10 w (by omega) (by omega)
          · exact popAll_ok 512 5632 pop11 w (by omega) (by omega)
      · rcases Nat.lt_or_ge w 7168 with h14 | h14
        · rcases Nat.lt_or_ge w 6656 with h13 | h13
          · exact popAll_ok 512 6144 pop12 w (by omega) (by omega)
          · exact popAll_ok 512 6656 pop13 w (by omega) (by omega)
        · rcases Nat.lt_or_ge w 7680 with h15 | h15
          · exact popAll_ok 512 7168 pop14 w (by omega) (by omega)
          · exact popAll_ok 512 7680 pop15 w (by omega) (by omega)
  · rcases Nat.lt_or_ge w 12288 with h24 | h24
    · rcases Nat.lt_or_ge w 10240 with h20 | h20
      · rcases Nat.lt_or_ge w 9216 with h18 | h18
        · rcases Nat.lt_or_ge w 8704 with h17 | h17
          · exact popAll_ok 512 8192 pop16 w (by omega) (by omega)
          · exact popAll_ok 512 8704 pop17 w (by omega) (by omega)
        · rcases Nat.lt_or_ge w 9728 with h19 | h19
          · exact popAll_ok 512 9216 pop18 w (by omega) (by omega)
          · exact popAll_ok 512 9728 pop19 w (by omega) (by omega)
      · rcases Nat.lt_or_ge w 11264 with h22 | h22
        · rcases Nat.lt_or_ge w 10752 with h21 | h21
          · exact popAll_ok 512 10240 pop20 w (by omega) (by omega)
          · exact popAll_ok 512 10752 pop21 w (by omega) (by omega)
        · rcases Nat.lt_or_ge w 11776 with h23 | h23
          · exact popAll_ok 512 11264 pop22 w (by omega) (by omega)
          · exact popAll_ok 512 11776 pop23 w (by omega) (by omega)
    · rcases Nat.lt_or_ge w 14336 with h28 | h28
      · rcases Nat.lt_or_ge w 13312 with h26 | h26
        · rcases Nat.lt_or_ge w 12800 with h25 | h25
          · exact popAll_ok 512 12288 pop24 w (by omega) (by omega)
          · exact popAll_ok 512 12800 pop25 w (by omega) (by omega)
        · rcases Nat.lt_or_ge w 13824 with h27 | h27
          · exact popAll_ok 512 13312 pop26 w (by omega) (by omega)
          · exact popAll_ok 512 13824 pop27 w (by omega) (by omega)
      · rcases Nat.lt_or_ge w 15360 with h30 | h30
        · rcases Nat.lt_or_ge w 14848 with h29 | h29
          · exact popAll_ok 512 14336 pop28 w (by omega) (by omega)
          · exact popAll_ok 512 14848 pop29 w (by omega) (by omega)
        · rcases Nat.lt_or_ge w 15872 with h31 | h31
          · exact popAll_ok 512 15360 pop30 w (by omega) (by omega)
          · exact popAll_ok 512 15872 pop31 w (by omega) (by omega)
