def Rel (_ _ : Sg) : Prop := True
theorem st_all : STL Rel := sorry
theorem rel_0 : Rel zh zm := trivial
theorem cn_zh : cn_s Kh zh := sorry
theorem cn_zm : cn_s Km zm := sorry
