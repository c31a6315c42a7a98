/-! a sum of bits, tried at all masks of 16 bits -/
def bcN (m : Nat) : Nat :=
  let a1 := m - (m / 2 &&& 1431655765)
  let a2 := (a1 &&& 858993459) + (a1 / 4 &&& 858993459)
  let a3 := (a2 + a2 / 16) &&& 252645135
  let a4 := a3 + a3 / 256
  (a4 + a4 / 65536) &&& 63
def ctN (m : Nat) : Nat := 0 + m / 1 % 2 + m / 2 % 2 + m / 4 % 2 + m / 8 % 2 + m / 16 % 2 + m / 32 % 2 + m / 64 % 2 + m / 128 % 2 + m / 256 % 2 + m / 512 % 2 + m / 1024 % 2 + m / 2048 % 2 + m / 4096 % 2 + m / 8192 % 2 + m / 16384 % 2 + m / 32768 % 2
def chk1 (h : Nat) : Nat → Bool
  | 0 => true
  | l + 1 => chk1 h l && (bcN (h * 256 + l) == ctN (h * 256 + l))
def chk2 : Nat → Bool
  | 0 => true
  | h + 1 => chk2 h && chk1 h 256
theorem chk2_ok : chk2 256 = true := by decide +kernel
theorem chk1_use {h : Nat} : ∀ {N l : Nat}, chk1 h N = true → l < N → bcN (h * 256 + l) = ctN (h * 256 + l)
  | 0, _, _, hl => absurd hl (by omega)
  | N + 1, l, hc, hl => by
    rw [chk1, Bool.and_eq_true] at hc
    by_cases e : l = N
    · subst e
      exact eq_of_beq hc.2
    · exact chk1_use hc.1 (by omega)
theorem chk2_use : ∀ {N h : Nat}, chk2 N = true → h < N → chk1 h 256 = true
  | 0, _, _, hl => absurd hl (by omega)
  | N + 1, h, hc, hl => by
    rw [chk2, Bool.and_eq_true] at hc
    by_cases e : h = N
    · subst e
      exact hc.2
    · exact chk2_use hc.1 (by omega)
