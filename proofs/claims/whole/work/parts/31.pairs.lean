theorem nb0 : nb 0 = 0 := by decide
theorem nb1 : nb 1 = 1 := by decide
section P31
variable {h : xH}
/-- whether i is a guest of g -/
def isG (g i : Int32) : Prop := ¬ i < 0 ∧ ¬ g ≤ i
theorem Ma_isGuest_e (s : Shp h) (i : Int32) : f_Ma_isGuest 1 i h = some (if i < 0 then 0 else if hI h 7 1 ≤ i then 0 else 1, h) := by
  unfold Shp at s
  simp only [f_Ma_isGuest, jn, gd, s, if_true]
  split
  · rw [nb0]
  · split
    · rw [nb0]
    · rw [nb1]
def pairOf (i j : Int32) : Int32 := jMax i j * (jMax i j - 1) / 2 + jMin i j
theorem Se_pairOf_e (i j : Int32) : f_Se_pairOf i j h = some (pairOf i j, h) := rfl
def pairNo (g i j : Int32) : Int32 := if i < 0 ∨ g ≤ i ∨ j < 0 ∨ g ≤ j ∨ i = j then -1 else pairOf i j
theorem Ma_pairNumber_e (s : Shp h) (i j : Int32) : f_Ma_pairNumber 1 i j h = some (pairNo (hI h 7 1) i j, h) := by
  have s2 := s
  unfold Shp at s2
  simp only [f_Ma_pairNumber, jn, gd, s2, if_true, Ma_isGuest_e s, bind_s, Se_pairOf_e]
  unfold pairNo
  by_cases h1 : i < 0
  · simp [h1]
  · by_cases h2 : hI h 7 1 ≤ i
    · simp [h1, h2]
    · by_cases h3 : j < 0
      · simp [h1, h2, h3]
      · by_cases h4 : hI h 7 1 ≤ j
        · simp [h1, h2, h3, h4]
        · by_cases h5 : i = j
          · simp [h1, h2, h3, h4, h5]
          · simp [h1, h2, h3, h4, h5]
def look (F S p : Int32) : Int32 := if jShr F p &&& 1 = 1 then 1 else if jShr S p &&& 1 = 1 then 0 else 2
theorem Ta_look_e (s : Shp h) (p : Int32) : f_Ta_look 7 p h = some (look (hI h 7 2) (hI h 7 3) p, h) := by
  unfold Shp at s
  simp only [f_Ta_look, gd, s, if_true]
  unfold look
  split <;> rfl
theorem Ma_told_e (s : Shp h) (i j : Int32) : f_Ma_told 1 i j h = some (if 0 ≤ pairNo (hI h 7 1) i j then look (hI h 7 2) (hI h 7 3) (pairNo (hI h 7 1) i j) else -2, h) := by
  have s2 := s
  unfold Shp at s2
  simp only [f_Ma_told, jn, gd, s2, if_true, Ma_pairNumber_e s, Ta_look_e s, bind_s]
  split <;> rfl
end P31
