/-! the shapes: what lies where -/
abbrev rf (t : Nat) : Option (Option Nat) := some (some t)
def isSc (S : List hSh) (k : Nat) : Prop := S[k]? = some (.inl (4, [rf (k+1), none])) ∧ S[(k+1)]? = some (.inr (1, 200))
def isRo (S : List hSh) (k : Nat) : Prop := S[k]? = some (.inl (3, [none, none, none, rf (k+1), rf (k+2), rf (k+3), rf (k+4), rf (k+5), rf (k+6), rf (k+7)])) ∧ S[(k+1)]? = some (.inr (2, 8)) ∧ S[(k+2)]? = some (.inr (0, 8)) ∧ S[(k+3)]? = some (.inr (0, 8)) ∧ S[(k+4)]? = some (.inr (0, 8)) ∧ S[(k+5)]? = some (.inr (0, 3)) ∧ S[(k+6)]? = some (.inr (0, 3)) ∧ S[(k+7)]? = some (.inr (0, 3))
def isBk (S : List hSh) (k : Nat) : Prop := S[k]? = some (.inl (0, [none, rf (k+1), rf (k+2), rf (k+3), rf (k+4), rf (k+5), rf (k+6), rf (k+7), rf (k+8)])) ∧ S[(k+1)]? = some (.inr (0, 8)) ∧ S[(k+2)]? = some (.inr (0, 3)) ∧ S[(k+3)]? = some (.inr (0, 3)) ∧ S[(k+4)]? = some (.inr (0, 24)) ∧ S[(k+5)]? = some (.inr (0, 24)) ∧ S[(k+6)]? = some (.inr (0, 24)) ∧ S[(k+7)]? = some (.inr (0, 24)) ∧ S[(k+8)]? = some (.inr (0, 24))
def isHd (S : List hSh) (k : Nat) (bk : Nat) : Prop := S[k]? = some (.inl (1, [rf bk, rf (k+1), rf (k+2)])) ∧ S[(k+1)]? = some (.inr (0, 8)) ∧ S[(k+2)]? = some (.inr (0, 3)) ∧ isBk S bk
def isHo (S : List hSh) (k : Nat) (ro : Nat) : Prop := S[k]? = some (.inl (2, [rf ro, rf (k+1), rf (k+10), rf (k+13)])) ∧ S[(k+13)]? = some (.inr (0, 8)) ∧ isRo S ro ∧ isBk S (k+1) ∧ isHd S (k+10) (k+1)
def isSi (S : List hSh) (k : Nat) : Prop := S[k]? = some (.inl (6, [none, rf (k+1), rf (k+2), rf (k+3), rf (k+4)])) ∧ S[(k+1)]? = some (.inr (0, 6)) ∧ S[(k+2)]? = some (.inr (0, 6)) ∧ S[(k+3)]? = some (.inr (0, 6)) ∧ S[(k+4)]? = some (.inr (2, 6))
def isSh (S : List hSh) (k : Nat) (w : Nat) : Prop := S[k]? = some (.inl (5, [rf (k+1), none])) ∧ S[(k+1)]? = some (.inr (3, w)) ∧ (∀ i, i < w → isBk S (k + 2 + 9 * i)) ∧ S.length < 1000
def isPW (S : List hSh) : Prop := S[0]? = some (.inl (7, [rf 1, rf 3, rf 11, rf 19, rf 33, rf 47, rf 52, rf 126])) ∧ isSc S 1 ∧ isRo S 3 ∧ isRo S 11 ∧ isHo S 19 3 ∧ isHo S 33 3 ∧ isSi S 47 ∧ isSh S 52 8 ∧ isSh S 126 2
def isMo (S : List hSh) : Prop := S[146]? = some (.inl (8, [none, rf 147, none, rf 148, none, rf 149, none, rf 150, none, rf 151, none, rf 152, rf 153, none, none, rf 154, none, rf 155, rf 156, none, rf 157, none, rf 158, rf 159, rf 160, rf 161, none])) ∧ S[147]? = some (.inr (0, 24)) ∧ S[148]? = some (.inr (0, 6)) ∧ S[149]? = some (.inr (0, 111)) ∧ S[150]? = some (.inr (0, 888)) ∧ S[151]? = some (.inr (0, 222)) ∧ S[152]? = some (.inr (0, 24)) ∧ S[153]? = some (.inr (0, 200)) ∧ S[154]? = some (.inr (0, 3)) ∧ S[155]? = some (.inr (0, 24)) ∧ S[156]? = some (.inr (0, 8)) ∧ S[157]? = some (.inr (0, 6)) ∧ S[158]? = some (.inr (0, 111)) ∧ S[159]? = some (.inr (2, 24)) ∧ S[160]? = some (.inr (2, 24)) ∧ S[161]? = some (.inr (0, 256))
theorem ckB_b {S : List hSh} {k n b : Nat} (h : ∀ i, i < n → isBk S (k + 2 + 9 * i)) (c : ∃ i, i < n ∧ b = k + 2 + 9 * i) : isBk S b := by
  obtain ⟨i, hi, rfl⟩ := c
  exact h i hi
theorem ckB_p {k n b : Nat} (c : ∃ i, i < n ∧ b = k + 2 + 9 * i) : 0 < b := by
  obtain ⟨i, hi, rfl⟩ := c
  omega
