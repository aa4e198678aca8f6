/-! ===== all methods by number ===== -/
noncomputable def F_43 (R : mjR) (As : List Value) (hp : mjH) : mjU := match As with
  | [.ref a0, .int a1] => f_43 R a0 a1 hp
  | _ => none
theorem Fk_43 {R : mjR} {d : Nat} (hR : mjC R d) {As : List Value} {hp : mjH} {q : Option Value × mjH} (h : F_43 R As hp = some q) : mjM (d + 1) 0 0 43 As hp (mjEq q) := by
  unfold F_43 at h
  split at h
  · exact c_43 hR h
  · exact mj_no h
noncomputable def F_45 (R : mjR) (As : List Value) (hp : mjH) : mjU := match As with
  | [.ref a0, .int a1, .int a2] => f_45 R a0 a1 a2 hp
  | _ => none
theorem Fk_45 {R : mjR} {d : Nat} (hR : mjC R d) {As : List Value} {hp : mjH} {q : Option Value × mjH} (h : F_45 R As hp = some q) : mjM (d + 1) 0 0 45 As hp (mjEq q) := by
  unfold F_45 at h
  split at h
  · exact c_45 hR h
  · exact mj_no h
noncomputable def F_46 (R : mjR) (As : List Value) (hp : mjH) : mjU := match As with
  | [.ref a0, .int a1] => f_46 R a0 a1 hp
  | _ => none
theorem Fk_46 {R : mjR} {d : Nat} (hR : mjC R d) {As : List Value} {hp : mjH} {q : Option Value × mjH} (h : F_46 R As hp = some q) : mjM (d + 1) 0 0 46 As hp (mjEq q) := by
  unfold F_46 at h
  split at h
  · exact c_46 hR h
  · exact mj_no h
noncomputable def F_48 (R : mjR) (As : List Value) (hp : mjH) : mjU := match As with
  | [.ref a0, .int a1] => f_48 R a0 a1 hp
  | _ => none
theorem Fk_48 {R : mjR} {d : Nat} (hR : mjC R d) {As : List Value} {hp : mjH} {q : Option Value × mjH} (h : F_48 R As hp = some q) : mjM (d + 1) 0 0 48 As hp (mjEq q) := by
  unfold F_48 at h
  split at h
  · exact c_48 hR h
  · exact mj_no h
noncomputable def F_49 (R : mjR) (As : List Value) (hp : mjH) : mjU := match As with
  | [.ref a0, .int a1, .int a2] => f_49 R a0 a1 a2 hp
  | _ => none
theorem Fk_49 {R : mjR} {d : Nat} (hR : mjC R d) {As : List Value} {hp : mjH} {q : Option Value × mjH} (h : F_49 R As hp = some q) : mjM (d + 1) 0 0 49 As hp (mjEq q) := by
  unfold F_49 at h
  split at h
  · exact c_49 hR h
  · exact mj_no h
noncomputable def F_96 (R : mjR) (As : List Value) (hp : mjH) : mjU := match As with
  | [.ref a0] => f_96 R a0 hp
  | _ => none
theorem Fk_96 {R : mjR} {d : Nat} (hR : mjC R d) {As : List Value} {hp : mjH} {q : Option Value × mjH} (h : F_96 R As hp = some q) : mjM (d + 1) 0 0 96 As hp (mjEq q) := by
  unfold F_96 at h
  split at h
  · exact c_96 hR h
  · exact mj_no h
noncomputable def F_101 (R : mjR) (As : List Value) (hp : mjH) : mjU := match As with
  | [.ref a0] => f_101 R a0 hp
  | _ => none
theorem Fk_101 {R : mjR} {d : Nat} (hR : mjC R d) {As : List Value} {hp : mjH} {q : Option Value × mjH} (h : F_101 R As hp = some q) : mjM (d + 1) 0 0 101 As hp (mjEq q) := by
  unfold F_101 at h
  split at h
  · exact c_101 hR h
  · exact mj_no h
noncomputable def F_105 (R : mjR) (As : List Value) (hp : mjH) : mjU := match As with
  | [.int a0] => f_105 R a0 hp
  | _ => none
theorem Fk_105 {R : mjR} {d : Nat} (hR : mjC R d) {As : List Value} {hp : mjH} {q : Option Value × mjH} (h : F_105 R As hp = some q) : mjM (d + 1) 0 0 105 As hp (mjEq q) := by
  unfold F_105 at h
  split at h
  · exact c_105 hR h
  · exact mj_no h
noncomputable def F_108 (R : mjR) (As : List Value) (hp : mjH) : mjU := match As with
  | [.ref a0, .int a1] => f_108 R a0 a1 hp
  | _ => none
theorem Fk_108 {R : mjR} {d : Nat} (hR : mjC R d) {As : List Value} {hp : mjH} {q : Option Value × mjH} (h : F_108 R As hp = some q) : mjM (d + 1) 0 0 108 As hp (mjEq q) := by
  unfold F_108 at h
  split at h
  · exact c_108 hR h
  · exact mj_no h
noncomputable def F_126 (R : mjR) (As : List Value) (hp : mjH) : mjU := match As with
  | [.ref a0, .ref a1] => f_126 R a0 a1 hp
  | _ => none
theorem Fk_126 {R : mjR} {d : Nat} (hR : mjC R d) {As : List Value} {hp : mjH} {q : Option Value × mjH} (h : F_126 R As hp = some q) : mjM (d + 1) 0 0 126 As hp (mjEq q) := by
  unfold F_126 at h
  split at h
  · exact c_126 hR h
  · exact mj_no h
noncomputable def F_134 (R : mjR) (As : List Value) (hp : mjH) : mjU := match As with
  | [.ref a0, .int a1] => f_134 R a0 a1 hp
  | _ => none
theorem Fk_134 {R : mjR} {d : Nat} (hR : mjC R d) {As : List Value} {hp : mjH} {q : Option Value × mjH} (h : F_134 R As hp = some q) : mjM (d + 1) 0 0 134 As hp (mjEq q) := by
  unfold F_134 at h
  split at h
  · exact c_134 hR h
  · exact mj_no h
noncomputable def F_135 (R : mjR) (As : List Value) (hp : mjH) : mjU := match As with
  | [.ref a0] => f_135 R a0 hp
  | _ => none
theorem Fk_135 {R : mjR} {d : Nat} (hR : mjC R d) {As : List Value} {hp : mjH} {q : Option Value × mjH} (h : F_135 R As hp = some q) : mjM (d + 1) 0 0 135 As hp (mjEq q) := by
  unfold F_135 at h
  split at h
  · exact c_135 hR h
  · exact mj_no h
noncomputable def F_138 (R : mjR) (As : List Value) (hp : mjH) : mjU := match As with
  | [.ref a0, .int a1] => f_138 R a0 a1 hp
  | _ => none
theorem Fk_138 {R : mjR} {d : Nat} (hR : mjC R d) {As : List Value} {hp : mjH} {q : Option Value × mjH} (h : F_138 R As hp = some q) : mjM (d + 1) 0 0 138 As hp (mjEq q) := by
  unfold F_138 at h
  split at h
  · exact c_138 hR h
  · exact mj_no h
noncomputable def F_139 (R : mjR) (As : List Value) (hp : mjH) : mjU := match As with
  | [.ref a0] => f_139 R a0 hp
  | _ => none
theorem Fk_139 {R : mjR} {d : Nat} (hR : mjC R d) {As : List Value} {hp : mjH} {q : Option Value × mjH} (h : F_139 R As hp = some q) : mjM (d + 1) 0 0 139 As hp (mjEq q) := by
  unfold F_139 at h
  split at h
  · exact c_139 hR h
  · exact mj_no h
noncomputable def F_153 (R : mjR) (As : List Value) (hp : mjH) : mjU := match As with
  | [.long a0, .int a1] => f_153 R a0 a1 hp
  | _ => none
theorem Fk_153 {R : mjR} {d : Nat} (hR : mjC R d) {As : List Value} {hp : mjH} {q : Option Value × mjH} (h : F_153 R As hp = some q) : mjM (d + 1) 0 0 153 As hp (mjEq q) := by
  unfold F_153 at h
  split at h
  · exact c_153 hR h
  · exact mj_no h
noncomputable def F_154 (R : mjR) (As : List Value) (hp : mjH) : mjU := match As with
  | [.ref a0, .ref a1, .int a2] => f_154 R a0 a1 a2 hp
  | _ => none
theorem Fk_154 {R : mjR} {d : Nat} (hR : mjC R d) {As : List Value} {hp : mjH} {q : Option Value × mjH} (h : F_154 R As hp = some q) : mjM (d + 1) 0 0 154 As hp (mjEq q) := by
  unfold F_154 at h
  split at h
  · exact c_154 hR h
  · exact mj_no h
noncomputable def F_155 (R : mjR) (As : List Value) (hp : mjH) : mjU := match As with
  | [.ref a0, .int a1, .int a2] => f_155 R a0 a1 a2 hp
  | _ => none
theorem Fk_155 {R : mjR} {d : Nat} (hR : mjC R d) {As : List Value} {hp : mjH} {q : Option Value × mjH} (h : F_155 R As hp = some q) : mjM (d + 1) 0 0 155 As hp (mjEq q) := by
  unfold F_155 at h
  split at h
  · exact c_155 hR h
  · exact mj_no h
noncomputable def F_161 (R : mjR) (As : List Value) (hp : mjH) : mjU := match As with
  | [.ref a0, .int a1, .int a2, .long a3] => f_161 R a0 a1 a2 a3 hp
  | _ => none
theorem Fk_161 {R : mjR} {d : Nat} (hR : mjC R d) {As : List Value} {hp : mjH} {q : Option Value × mjH} (h : F_161 R As hp = some q) : mjM (d + 1) 0 0 161 As hp (mjEq q) := by
  unfold F_161 at h
  split at h
  · exact c_161 hR h
  · exact mj_no h
noncomputable def F_164 (R : mjR) (As : List Value) (hp : mjH) : mjU := match As with
  | [.ref a0, .int a1] => f_164 R a0 a1 hp
  | _ => none
theorem Fk_164 {R : mjR} {d : Nat} (hR : mjC R d) {As : List Value} {hp : mjH} {q : Option Value × mjH} (h : F_164 R As hp = some q) : mjM (d + 1) 0 0 164 As hp (mjEq q) := by
  unfold F_164 at h
  split at h
  · exact c_164 hR h
  · exact mj_no h
noncomputable def F_165 (R : mjR) (As : List Value) (hp : mjH) : mjU := match As with
  | [.ref a0, .int a1] => f_165 R a0 a1 hp
  | _ => none
theorem Fk_165 {R : mjR} {d : Nat} (hR : mjC R d) {As : List Value} {hp : mjH} {q : Option Value × mjH} (h : F_165 R As hp = some q) : mjM (d + 1) 0 0 165 As hp (mjEq q) := by
  unfold F_165 at h
  split at h
  · exact c_165 hR h
  · exact mj_no h
noncomputable def F_166 (R : mjR) (As : List Value) (hp : mjH) : mjU := match As with
  | [.ref a0] => f_166 R a0 hp
  | _ => none
theorem Fk_166 {R : mjR} {d : Nat} (hR : mjC R d) {As : List Value} {hp : mjH} {q : Option Value × mjH} (h : F_166 R As hp = some q) : mjM (d + 1) 0 0 166 As hp (mjEq q) := by
  unfold F_166 at h
  split at h
  · exact c_166 hR h
  · exact mj_no h
noncomputable def F_167 (R : mjR) (As : List Value) (hp : mjH) : mjU := match As with
  | [.ref a0] => f_167 R a0 hp
  | _ => none
theorem Fk_167 {R : mjR} {d : Nat} (hR : mjC R d) {As : List Value} {hp : mjH} {q : Option Value × mjH} (h : F_167 R As hp = some q) : mjM (d + 1) 0 0 167 As hp (mjEq q) := by
  unfold F_167 at h
  split at h
  · exact c_167 hR h
  · exact mj_no h
noncomputable def F_169 (R : mjR) (As : List Value) (hp : mjH) : mjU := match As with
  | [.ref a0, .int a1] => f_169 R a0 a1 hp
  | _ => none
theorem Fk_169 {R : mjR} {d : Nat} (hR : mjC R d) {As : List Value} {hp : mjH} {q : Option Value × mjH} (h : F_169 R As hp = some q) : mjM (d + 1) 0 0 169 As hp (mjEq q) := by
  unfold F_169 at h
  split at h
  · exact c_169 hR h
  · exact mj_no h
noncomputable def F_171 (R : mjR) (As : List Value) (hp : mjH) : mjU := match As with
  | [.ref a0] => f_171 R a0 hp
  | _ => none
theorem Fk_171 {R : mjR} {d : Nat} (hR : mjC R d) {As : List Value} {hp : mjH} {q : Option Value × mjH} (h : F_171 R As hp = some q) : mjM (d + 1) 0 0 171 As hp (mjEq q) := by
  unfold F_171 at h
  split at h
  · exact c_171 hR h
  · exact mj_no h
noncomputable def F_172 (R : mjR) (As : List Value) (hp : mjH) : mjU := match As with
  | [.ref a0] => f_172 R a0 hp
  | _ => none
theorem Fk_172 {R : mjR} {d : Nat} (hR : mjC R d) {As : List Value} {hp : mjH} {q : Option Value × mjH} (h : F_172 R As hp = some q) : mjM (d + 1) 0 0 172 As hp (mjEq q) := by
  unfold F_172 at h
  split at h
  · exact c_172 hR h
  · exact mj_no h
noncomputable def F_183 (R : mjR) (As : List Value) (hp : mjH) : mjU := match As with
  | [.ref a0] => f_183 R a0 hp
  | _ => none
theorem Fk_183 {R : mjR} {d : Nat} (hR : mjC R d) {As : List Value} {hp : mjH} {q : Option Value × mjH} (h : F_183 R As hp = some q) : mjM (d + 1) 0 0 183 As hp (mjEq q) := by
  unfold F_183 at h
  split at h
  · exact c_183 hR h
  · exact mj_no h
noncomputable def F_186 (R : mjR) (As : List Value) (hp : mjH) : mjU := match As with
  | [.ref a0, .int a1, .int a2] => f_186 R a0 a1 a2 hp
  | _ => none
theorem Fk_186 {R : mjR} {d : Nat} (hR : mjC R d) {As : List Value} {hp : mjH} {q : Option Value × mjH} (h : F_186 R As hp = some q) : mjM (d + 1) 0 0 186 As hp (mjEq q) := by
  unfold F_186 at h
  split at h
  · exact c_186 hR h
  · exact mj_no h
noncomputable def F_193 (R : mjR) (As : List Value) (hp : mjH) : mjU := match As with
  | [.ref a0] => f_193 R a0 hp
  | _ => none
theorem Fk_193 {R : mjR} {d : Nat} (hR : mjC R d) {As : List Value} {hp : mjH} {q : Option Value × mjH} (h : F_193 R As hp = some q) : mjM (d + 1) 0 0 193 As hp (mjEq q) := by
  unfold F_193 at h
  split at h
  · exact c_193 hR h
  · exact mj_no h
noncomputable def F_194 (R : mjR) (As : List Value) (hp : mjH) : mjU := match As with
  | [.ref a0] => f_194 R a0 hp
  | _ => none
theorem Fk_194 {R : mjR} {d : Nat} (hR : mjC R d) {As : List Value} {hp : mjH} {q : Option Value × mjH} (h : F_194 R As hp = some q) : mjM (d + 1) 0 0 194 As hp (mjEq q) := by
  unfold F_194 at h
  split at h
  · exact c_194 hR h
  · exact mj_no h
noncomputable def F_198 (R : mjR) (As : List Value) (hp : mjH) : mjU := match As with
  | [.ref a0] => f_198 R a0 hp
  | _ => none
theorem Fk_198 {R : mjR} {d : Nat} (hR : mjC R d) {As : List Value} {hp : mjH} {q : Option Value × mjH} (h : F_198 R As hp = some q) : mjM (d + 1) 0 0 198 As hp (mjEq q) := by
  unfold F_198 at h
  split at h
  · exact c_198 hR h
  · exact mj_no h
noncomputable def F_199 (R : mjR) (As : List Value) (hp : mjH) : mjU := match As with
  | [.ref a0, .int a1] => f_199 R a0 a1 hp
  | _ => none
theorem Fk_199 {R : mjR} {d : Nat} (hR : mjC R d) {As : List Value} {hp : mjH} {q : Option Value × mjH} (h : F_199 R As hp = some q) : mjM (d + 1) 0 0 199 As hp (mjEq q) := by
  unfold F_199 at h
  split at h
  · exact c_199 hR h
  · exact mj_no h
noncomputable def F_202 (R : mjR) (As : List Value) (hp : mjH) : mjU := match As with
  | [.ref a0, .int a1, .int a2, .int a3, .int a4, .int a5] => f_202 R a0 a1 a2 a3 a4 a5 hp
  | _ => none
theorem Fk_202 {R : mjR} {d : Nat} (hR : mjC R d) {As : List Value} {hp : mjH} {q : Option Value × mjH} (h : F_202 R As hp = some q) : mjM (d + 1) 0 0 202 As hp (mjEq q) := by
  unfold F_202 at h
  split at h
  · exact c_202 hR h
  · exact mj_no h
noncomputable def F_203 (R : mjR) (As : List Value) (hp : mjH) : mjU := match As with
  | [.ref a0, .int a1] => f_203 R a0 a1 hp
  | _ => none
theorem Fk_203 {R : mjR} {d : Nat} (hR : mjC R d) {As : List Value} {hp : mjH} {q : Option Value × mjH} (h : F_203 R As hp = some q) : mjM (d + 1) 0 0 203 As hp (mjEq q) := by
  unfold F_203 at h
  split at h
  · exact c_203 hR h
  · exact mj_no h
noncomputable def F_204 (R : mjR) (As : List Value) (hp : mjH) : mjU := match As with
  | [.ref a0, .int a1, .int a2] => f_204 R a0 a1 a2 hp
  | _ => none
theorem Fk_204 {R : mjR} {d : Nat} (hR : mjC R d) {As : List Value} {hp : mjH} {q : Option Value × mjH} (h : F_204 R As hp = some q) : mjM (d + 1) 0 0 204 As hp (mjEq q) := by
  unfold F_204 at h
  split at h
  · exact c_204 hR h
  · exact mj_no h
noncomputable def F_206 (R : mjR) (As : List Value) (hp : mjH) : mjU := match As with
  | [.ref a0, .int a1] => f_206 R a0 a1 hp
  | _ => none
theorem Fk_206 {R : mjR} {d : Nat} (hR : mjC R d) {As : List Value} {hp : mjH} {q : Option Value × mjH} (h : F_206 R As hp = some q) : mjM (d + 1) 0 0 206 As hp (mjEq q) := by
  unfold F_206 at h
  split at h
  · exact c_206 hR h
  · exact mj_no h
noncomputable def F_207 (R : mjR) (As : List Value) (hp : mjH) : mjU := match As with
  | [.ref a0, .int a1, .int a2] => f_207 R a0 a1 a2 hp
  | _ => none
theorem Fk_207 {R : mjR} {d : Nat} (hR : mjC R d) {As : List Value} {hp : mjH} {q : Option Value × mjH} (h : F_207 R As hp = some q) : mjM (d + 1) 0 0 207 As hp (mjEq q) := by
  unfold F_207 at h
  split at h
  · exact c_207 hR h
  · exact mj_no h
noncomputable def F_208 (R : mjR) (As : List Value) (hp : mjH) : mjU := match As with
  | [.ref a0, .int a1, .int a2, .int a3] => f_208 R a0 a1 a2 a3 hp
  | _ => none
theorem Fk_208 {R : mjR} {d : Nat} (hR : mjC R d) {As : List Value} {hp : mjH} {q : Option Value × mjH} (h : F_208 R As hp = some q) : mjM (d + 1) 0 0 208 As hp (mjEq q) := by
  unfold F_208 at h
  split at h
  · exact c_208 hR h
  · exact mj_no h
noncomputable def F_210 (R : mjR) (As : List Value) (hp : mjH) : mjU := match As with
  | [.ref a0, .int a1, .int a2] => f_210 R a0 a1 a2 hp
  | _ => none
theorem Fk_210 {R : mjR} {d : Nat} (hR : mjC R d) {As : List Value} {hp : mjH} {q : Option Value × mjH} (h : F_210 R As hp = some q) : mjM (d + 1) 0 0 210 As hp (mjEq q) := by
  unfold F_210 at h
  split at h
  · exact c_210 hR h
  · exact mj_no h
noncomputable def F_211 (R : mjR) (As : List Value) (hp : mjH) : mjU := match As with
  | [.ref a0, .int a1] => f_211 R a0 a1 hp
  | _ => none
theorem Fk_211 {R : mjR} {d : Nat} (hR : mjC R d) {As : List Value} {hp : mjH} {q : Option Value × mjH} (h : F_211 R As hp = some q) : mjM (d + 1) 0 0 211 As hp (mjEq q) := by
  unfold F_211 at h
  split at h
  · exact c_211 hR h
  · exact mj_no h
noncomputable def F_212 (R : mjR) (As : List Value) (hp : mjH) : mjU := match As with
  | [.ref a0, .int a1] => f_212 R a0 a1 hp
  | _ => none
theorem Fk_212 {R : mjR} {d : Nat} (hR : mjC R d) {As : List Value} {hp : mjH} {q : Option Value × mjH} (h : F_212 R As hp = some q) : mjM (d + 1) 0 0 212 As hp (mjEq q) := by
  unfold F_212 at h
  split at h
  · exact c_212 hR h
  · exact mj_no h
noncomputable def F_213 (R : mjR) (As : List Value) (hp : mjH) : mjU := match As with
  | [.ref a0, .int a1] => f_213 R a0 a1 hp
  | _ => none
theorem Fk_213 {R : mjR} {d : Nat} (hR : mjC R d) {As : List Value} {hp : mjH} {q : Option Value × mjH} (h : F_213 R As hp = some q) : mjM (d + 1) 0 0 213 As hp (mjEq q) := by
  unfold F_213 at h
  split at h
  · exact c_213 hR h
  · exact mj_no h
noncomputable def F_214 (R : mjR) (As : List Value) (hp : mjH) : mjU := match As with
  | [.ref a0, .int a1, .int a2] => f_214 R a0 a1 a2 hp
  | _ => none
theorem Fk_214 {R : mjR} {d : Nat} (hR : mjC R d) {As : List Value} {hp : mjH} {q : Option Value × mjH} (h : F_214 R As hp = some q) : mjM (d + 1) 0 0 214 As hp (mjEq q) := by
  unfold F_214 at h
  split at h
  · exact c_214 hR h
  · exact mj_no h
noncomputable def F_215 (R : mjR) (As : List Value) (hp : mjH) : mjU := match As with
  | [.ref a0, .int a1, .int a2] => f_215 R a0 a1 a2 hp
  | _ => none
theorem Fk_215 {R : mjR} {d : Nat} (hR : mjC R d) {As : List Value} {hp : mjH} {q : Option Value × mjH} (h : F_215 R As hp = some q) : mjM (d + 1) 0 0 215 As hp (mjEq q) := by
  unfold F_215 at h
  split at h
  · exact c_215 hR h
  · exact mj_no h
noncomputable def F_216 (R : mjR) (As : List Value) (hp : mjH) : mjU := match As with
  | [.ref a0, .int a1, .int a2] => f_216 R a0 a1 a2 hp
  | _ => none
theorem Fk_216 {R : mjR} {d : Nat} (hR : mjC R d) {As : List Value} {hp : mjH} {q : Option Value × mjH} (h : F_216 R As hp = some q) : mjM (d + 1) 0 0 216 As hp (mjEq q) := by
  unfold F_216 at h
  split at h
  · exact c_216 hR h
  · exact mj_no h
noncomputable def F_217 (R : mjR) (As : List Value) (hp : mjH) : mjU := match As with
  | [.ref a0, .int a1, .int a2] => f_217 R a0 a1 a2 hp
  | _ => none
theorem Fk_217 {R : mjR} {d : Nat} (hR : mjC R d) {As : List Value} {hp : mjH} {q : Option Value × mjH} (h : F_217 R As hp = some q) : mjM (d + 1) 0 0 217 As hp (mjEq q) := by
  unfold F_217 at h
  split at h
  · exact c_217 hR h
  · exact mj_no h
noncomputable def F_218 (R : mjR) (As : List Value) (hp : mjH) : mjU := match As with
  | [.ref a0, .int a1, .int a2] => f_218 R a0 a1 a2 hp
  | _ => none
theorem Fk_218 {R : mjR} {d : Nat} (hR : mjC R d) {As : List Value} {hp : mjH} {q : Option Value × mjH} (h : F_218 R As hp = some q) : mjM (d + 1) 0 0 218 As hp (mjEq q) := by
  unfold F_218 at h
  split at h
  · exact c_218 hR h
  · exact mj_no h
noncomputable def F_219 (R : mjR) (As : List Value) (hp : mjH) : mjU := match As with
  | [.ref a0, .int a1, .int a2] => f_219 R a0 a1 a2 hp
  | _ => none
theorem Fk_219 {R : mjR} {d : Nat} (hR : mjC R d) {As : List Value} {hp : mjH} {q : Option Value × mjH} (h : F_219 R As hp = some q) : mjM (d + 1) 0 0 219 As hp (mjEq q) := by
  unfold F_219 at h
  split at h
  · exact c_219 hR h
  · exact mj_no h
noncomputable def F_220 (R : mjR) (As : List Value) (hp : mjH) : mjU := match As with
  | [.ref a0, .int a1, .int a2] => f_220 R a0 a1 a2 hp
  | _ => none
theorem Fk_220 {R : mjR} {d : Nat} (hR : mjC R d) {As : List Value} {hp : mjH} {q : Option Value × mjH} (h : F_220 R As hp = some q) : mjM (d + 1) 0 0 220 As hp (mjEq q) := by
  unfold F_220 at h
  split at h
  · exact c_220 hR h
  · exact mj_no h
noncomputable def F_221 (R : mjR) (As : List Value) (hp : mjH) : mjU := match As with
  | [.ref a0, .int a1] => f_221 R a0 a1 hp
  | _ => none
theorem Fk_221 {R : mjR} {d : Nat} (hR : mjC R d) {As : List Value} {hp : mjH} {q : Option Value × mjH} (h : F_221 R As hp = some q) : mjM (d + 1) 0 0 221 As hp (mjEq q) := by
  unfold F_221 at h
  split at h
  · exact c_221 hR h
  · exact mj_no h
noncomputable def F_222 (R : mjR) (As : List Value) (hp : mjH) : mjU := match As with
  | [.ref a0] => f_222 R a0 hp
  | _ => none
theorem Fk_222 {R : mjR} {d : Nat} (hR : mjC R d) {As : List Value} {hp : mjH} {q : Option Value × mjH} (h : F_222 R As hp = some q) : mjM (d + 1) 0 0 222 As hp (mjEq q) := by
  unfold F_222 at h
  split at h
  · exact c_222 hR h
  · exact mj_no h
noncomputable def F_223 (R : mjR) (As : List Value) (hp : mjH) : mjU := match As with
  | [.ref a0, .int a1] => f_223 R a0 a1 hp
  | _ => none
theorem Fk_223 {R : mjR} {d : Nat} (hR : mjC R d) {As : List Value} {hp : mjH} {q : Option Value × mjH} (h : F_223 R As hp = some q) : mjM (d + 1) 0 0 223 As hp (mjEq q) := by
  unfold F_223 at h
  split at h
  · exact c_223 hR h
  · exact mj_no h
noncomputable def F_224 (R : mjR) (As : List Value) (hp : mjH) : mjU := match As with
  | [.ref a0, .int a1, .int a2] => f_224 R a0 a1 a2 hp
  | _ => none
theorem Fk_224 {R : mjR} {d : Nat} (hR : mjC R d) {As : List Value} {hp : mjH} {q : Option Value × mjH} (h : F_224 R As hp = some q) : mjM (d + 1) 0 0 224 As hp (mjEq q) := by
  unfold F_224 at h
  split at h
  · exact c_224 hR h
  · exact mj_no h
noncomputable def F_226 (R : mjR) (As : List Value) (hp : mjH) : mjU := match As with
  | [.ref a0, .int a1, .int a2, .int a3, .int a4, .int a5, .int a6, .int a7] => f_226 R a0 a1 a2 a3 a4 a5 a6 a7 hp
  | _ => none
theorem Fk_226 {R : mjR} {d : Nat} (hR : mjC R d) {As : List Value} {hp : mjH} {q : Option Value × mjH} (h : F_226 R As hp = some q) : mjM (d + 1) 0 0 226 As hp (mjEq q) := by
  unfold F_226 at h
  split at h
  · exact c_226 hR h
  · exact mj_no h
noncomputable def F_227 (R : mjR) (As : List Value) (hp : mjH) : mjU := match As with
  | [.long a0, .int a1] => f_227 R a0 a1 hp
  | _ => none
theorem Fk_227 {R : mjR} {d : Nat} (hR : mjC R d) {As : List Value} {hp : mjH} {q : Option Value × mjH} (h : F_227 R As hp = some q) : mjM (d + 1) 0 0 227 As hp (mjEq q) := by
  unfold F_227 at h
  split at h
  · exact c_227 hR h
  · exact mj_no h
noncomputable def F_228 (R : mjR) (As : List Value) (hp : mjH) : mjU := match As with
  | [.int a0] => f_228 R a0 hp
  | _ => none
theorem Fk_228 {R : mjR} {d : Nat} (hR : mjC R d) {As : List Value} {hp : mjH} {q : Option Value × mjH} (h : F_228 R As hp = some q) : mjM (d + 1) 0 0 228 As hp (mjEq q) := by
  unfold F_228 at h
  split at h
  · exact c_228 hR h
  · exact mj_no h
noncomputable def F_229 (R : mjR) (As : List Value) (hp : mjH) : mjU := match As with
  | [.ref a0, .int a1] => f_229 R a0 a1 hp
  | _ => none
theorem Fk_229 {R : mjR} {d : Nat} (hR : mjC R d) {As : List Value} {hp : mjH} {q : Option Value × mjH} (h : F_229 R As hp = some q) : mjM (d + 1) 0 0 229 As hp (mjEq q) := by
  unfold F_229 at h
  split at h
  · exact c_229 hR h
  · exact mj_no h
noncomputable def F_245 (R : mjR) (As : List Value) (hp : mjH) : mjU := match As with
  | [.ref a0, .int a1, .int a2] => f_245 R a0 a1 a2 hp
  | _ => none
theorem Fk_245 {R : mjR} {d : Nat} (hR : mjC R d) {As : List Value} {hp : mjH} {q : Option Value × mjH} (h : F_245 R As hp = some q) : mjM (d + 1) 0 0 245 As hp (mjEq q) := by
  unfold F_245 at h
  split at h
  · exact c_245 hR h
  · exact mj_no h
noncomputable def F_246 (R : mjR) (As : List Value) (hp : mjH) : mjU := match As with
  | [.ref a0, .int a1] => f_246 R a0 a1 hp
  | _ => none
theorem Fk_246 {R : mjR} {d : Nat} (hR : mjC R d) {As : List Value} {hp : mjH} {q : Option Value × mjH} (h : F_246 R As hp = some q) : mjM (d + 1) 0 0 246 As hp (mjEq q) := by
  unfold F_246 at h
  split at h
  · exact c_246 hR h
  · exact mj_no h
noncomputable def F_251 (R : mjR) (As : List Value) (hp : mjH) : mjU := match As with
  | [.ref a0] => f_251 R a0 hp
  | _ => none
theorem Fk_251 {R : mjR} {d : Nat} (hR : mjC R d) {As : List Value} {hp : mjH} {q : Option Value × mjH} (h : F_251 R As hp = some q) : mjM (d + 1) 0 0 251 As hp (mjEq q) := by
  unfold F_251 at h
  split at h
  · exact c_251 hR h
  · exact mj_no h
noncomputable def F_253 (R : mjR) (As : List Value) (hp : mjH) : mjU := match As with
  | [.ref a0, .int a1] => f_253 R a0 a1 hp
  | _ => none
theorem Fk_253 {R : mjR} {d : Nat} (hR : mjC R d) {As : List Value} {hp : mjH} {q : Option Value × mjH} (h : F_253 R As hp = some q) : mjM (d + 1) 0 0 253 As hp (mjEq q) := by
  unfold F_253 at h
  split at h
  · exact c_253 hR h
  · exact mj_no h
noncomputable def F_255 (R : mjR) (As : List Value) (hp : mjH) : mjU := match As with
  | [.ref a0, .int a1] => f_255 R a0 a1 hp
  | _ => none
theorem Fk_255 {R : mjR} {d : Nat} (hR : mjC R d) {As : List Value} {hp : mjH} {q : Option Value × mjH} (h : F_255 R As hp = some q) : mjM (d + 1) 0 0 255 As hp (mjEq q) := by
  unfold F_255 at h
  split at h
  · exact c_255 hR h
  · exact mj_no h
noncomputable def F_256 (R : mjR) (As : List Value) (hp : mjH) : mjU := match As with
  | [.ref a0, .int a1, .int a2] => f_256 R a0 a1 a2 hp
  | _ => none
theorem Fk_256 {R : mjR} {d : Nat} (hR : mjC R d) {As : List Value} {hp : mjH} {q : Option Value × mjH} (h : F_256 R As hp = some q) : mjM (d + 1) 0 0 256 As hp (mjEq q) := by
  unfold F_256 at h
  split at h
  · exact c_256 hR h
  · exact mj_no h
noncomputable def F_257 (R : mjR) (As : List Value) (hp : mjH) : mjU := match As with
  | [.ref a0, .int a1] => f_257 R a0 a1 hp
  | _ => none
theorem Fk_257 {R : mjR} {d : Nat} (hR : mjC R d) {As : List Value} {hp : mjH} {q : Option Value × mjH} (h : F_257 R As hp = some q) : mjM (d + 1) 0 0 257 As hp (mjEq q) := by
  unfold F_257 at h
  split at h
  · exact c_257 hR h
  · exact mj_no h
noncomputable def F_258 (R : mjR) (As : List Value) (hp : mjH) : mjU := match As with
  | [.ref a0, .int a1, .int a2, .int a3, .int a4, .int a5] => f_258 R a0 a1 a2 a3 a4 a5 hp
  | _ => none
theorem Fk_258 {R : mjR} {d : Nat} (hR : mjC R d) {As : List Value} {hp : mjH} {q : Option Value × mjH} (h : F_258 R As hp = some q) : mjM (d + 1) 0 0 258 As hp (mjEq q) := by
  unfold F_258 at h
  split at h
  · exact c_258 hR h
  · exact mj_no h
noncomputable def F_259 (R : mjR) (As : List Value) (hp : mjH) : mjU := match As with
  | [.ref a0, .int a1] => f_259 R a0 a1 hp
  | _ => none
theorem Fk_259 {R : mjR} {d : Nat} (hR : mjC R d) {As : List Value} {hp : mjH} {q : Option Value × mjH} (h : F_259 R As hp = some q) : mjM (d + 1) 0 0 259 As hp (mjEq q) := by
  unfold F_259 at h
  split at h
  · exact c_259 hR h
  · exact mj_no h
noncomputable def F_260 (R : mjR) (As : List Value) (hp : mjH) : mjU := match As with
  | [.ref a0, .int a1, .int a2] => f_260 R a0 a1 a2 hp
  | _ => none
theorem Fk_260 {R : mjR} {d : Nat} (hR : mjC R d) {As : List Value} {hp : mjH} {q : Option Value × mjH} (h : F_260 R As hp = some q) : mjM (d + 1) 0 0 260 As hp (mjEq q) := by
  unfold F_260 at h
  split at h
  · exact c_260 hR h
  · exact mj_no h
noncomputable def F_261 (R : mjR) (As : List Value) (hp : mjH) : mjU := match As with
  | [.ref a0] => f_261 R a0 hp
  | _ => none
theorem Fk_261 {R : mjR} {d : Nat} (hR : mjC R d) {As : List Value} {hp : mjH} {q : Option Value × mjH} (h : F_261 R As hp = some q) : mjM (d + 1) 0 0 261 As hp (mjEq q) := by
  unfold F_261 at h
  split at h
  · exact c_261 hR h
  · exact mj_no h
noncomputable def F_262 (R : mjR) (As : List Value) (hp : mjH) : mjU := match As with
  | [.ref a0] => f_262 R a0 hp
  | _ => none
theorem Fk_262 {R : mjR} {d : Nat} (hR : mjC R d) {As : List Value} {hp : mjH} {q : Option Value × mjH} (h : F_262 R As hp = some q) : mjM (d + 1) 0 0 262 As hp (mjEq q) := by
  unfold F_262 at h
  split at h
  · exact c_262 hR h
  · exact mj_no h
noncomputable def F_263 (R : mjR) (As : List Value) (hp : mjH) : mjU := match As with
  | [.ref a0, .int a1] => f_263 R a0 a1 hp
  | _ => none
theorem Fk_263 {R : mjR} {d : Nat} (hR : mjC R d) {As : List Value} {hp : mjH} {q : Option Value × mjH} (h : F_263 R As hp = some q) : mjM (d + 1) 0 0 263 As hp (mjEq q) := by
  unfold F_263 at h
  split at h
  · exact c_263 hR h
  · exact mj_no h
noncomputable def F_264 (R : mjR) (As : List Value) (hp : mjH) : mjU := match As with
  | [.ref a0] => f_264 R a0 hp
  | _ => none
theorem Fk_264 {R : mjR} {d : Nat} (hR : mjC R d) {As : List Value} {hp : mjH} {q : Option Value × mjH} (h : F_264 R As hp = some q) : mjM (d + 1) 0 0 264 As hp (mjEq q) := by
  unfold F_264 at h
  split at h
  · exact c_264 hR h
  · exact mj_no h
noncomputable def F_265 (R : mjR) (As : List Value) (hp : mjH) : mjU := match As with
  | [.ref a0, .int a1] => f_265 R a0 a1 hp
  | _ => none
theorem Fk_265 {R : mjR} {d : Nat} (hR : mjC R d) {As : List Value} {hp : mjH} {q : Option Value × mjH} (h : F_265 R As hp = some q) : mjM (d + 1) 0 0 265 As hp (mjEq q) := by
  unfold F_265 at h
  split at h
  · exact c_265 hR h
  · exact mj_no h
noncomputable def F_266 (R : mjR) (As : List Value) (hp : mjH) : mjU := match As with
  | [.ref a0, .int a1] => f_266 R a0 a1 hp
  | _ => none
theorem Fk_266 {R : mjR} {d : Nat} (hR : mjC R d) {As : List Value} {hp : mjH} {q : Option Value × mjH} (h : F_266 R As hp = some q) : mjM (d + 1) 0 0 266 As hp (mjEq q) := by
  unfold F_266 at h
  split at h
  · exact c_266 hR h
  · exact mj_no h
noncomputable def F_268 (R : mjR) (As : List Value) (hp : mjH) : mjU := match As with
  | [.ref a0, .int a1, .int a2] => f_268 R a0 a1 a2 hp
  | _ => none
theorem Fk_268 {R : mjR} {d : Nat} (hR : mjC R d) {As : List Value} {hp : mjH} {q : Option Value × mjH} (h : F_268 R As hp = some q) : mjM (d + 1) 0 0 268 As hp (mjEq q) := by
  unfold F_268 at h
  split at h
  · exact c_268 hR h
  · exact mj_no h
noncomputable def F_269 (R : mjR) (As : List Value) (hp : mjH) : mjU := match As with
  | [.ref a0] => f_269 R a0 hp
  | _ => none
theorem Fk_269 {R : mjR} {d : Nat} (hR : mjC R d) {As : List Value} {hp : mjH} {q : Option Value × mjH} (h : F_269 R As hp = some q) : mjM (d + 1) 0 0 269 As hp (mjEq q) := by
  unfold F_269 at h
  split at h
  · exact c_269 hR h
  · exact mj_no h
noncomputable def F_336 (R : mjR) (As : List Value) (hp : mjH) : mjU := match As with
  | [.ref a0, .int a1] => f_336 R a0 a1 hp
  | _ => none
theorem Fk_336 {R : mjR} {d : Nat} (hR : mjC R d) {As : List Value} {hp : mjH} {q : Option Value × mjH} (h : F_336 R As hp = some q) : mjM (d + 1) 0 0 336 As hp (mjEq q) := by
  unfold F_336 at h
  split at h
  · exact c_336 hR h
  · exact mj_no h
noncomputable def F_337 (R : mjR) (As : List Value) (hp : mjH) : mjU := match As with
  | [.ref a0, .int a1, .int a2] => f_337 R a0 a1 a2 hp
  | _ => none
theorem Fk_337 {R : mjR} {d : Nat} (hR : mjC R d) {As : List Value} {hp : mjH} {q : Option Value × mjH} (h : F_337 R As hp = some q) : mjM (d + 1) 0 0 337 As hp (mjEq q) := by
  unfold F_337 at h
  split at h
  · exact c_337 hR h
  · exact mj_no h
noncomputable def F_338 (R : mjR) (As : List Value) (hp : mjH) : mjU := match As with
  | [.ref a0, .int a1] => f_338 R a0 a1 hp
  | _ => none
theorem Fk_338 {R : mjR} {d : Nat} (hR : mjC R d) {As : List Value} {hp : mjH} {q : Option Value × mjH} (h : F_338 R As hp = some q) : mjM (d + 1) 0 0 338 As hp (mjEq q) := by
  unfold F_338 at h
  split at h
  · exact c_338 hR h
  · exact mj_no h
noncomputable def F_339 (R : mjR) (As : List Value) (hp : mjH) : mjU := match As with
  | [.ref a0, .int a1, .int a2, .int a3] => f_339 R a0 a1 a2 a3 hp
  | _ => none
theorem Fk_339 {R : mjR} {d : Nat} (hR : mjC R d) {As : List Value} {hp : mjH} {q : Option Value × mjH} (h : F_339 R As hp = some q) : mjM (d + 1) 0 0 339 As hp (mjEq q) := by
  unfold F_339 at h
  split at h
  · exact c_339 hR h
  · exact mj_no h
noncomputable def F_340 (R : mjR) (As : List Value) (hp : mjH) : mjU := match As with
  | [.ref a0, .int a1, .int a2] => f_340 R a0 a1 a2 hp
  | _ => none
theorem Fk_340 {R : mjR} {d : Nat} (hR : mjC R d) {As : List Value} {hp : mjH} {q : Option Value × mjH} (h : F_340 R As hp = some q) : mjM (d + 1) 0 0 340 As hp (mjEq q) := by
  unfold F_340 at h
  split at h
  · exact c_340 hR h
  · exact mj_no h
noncomputable def F_341 (R : mjR) (As : List Value) (hp : mjH) : mjU := match As with
  | [.ref a0, .int a1] => f_341 R a0 a1 hp
  | _ => none
theorem Fk_341 {R : mjR} {d : Nat} (hR : mjC R d) {As : List Value} {hp : mjH} {q : Option Value × mjH} (h : F_341 R As hp = some q) : mjM (d + 1) 0 0 341 As hp (mjEq q) := by
  unfold F_341 at h
  split at h
  · exact c_341 hR h
  · exact mj_no h
noncomputable def F_342 (R : mjR) (As : List Value) (hp : mjH) : mjU := match As with
  | [.ref a0, .int a1] => f_342 R a0 a1 hp
  | _ => none
theorem Fk_342 {R : mjR} {d : Nat} (hR : mjC R d) {As : List Value} {hp : mjH} {q : Option Value × mjH} (h : F_342 R As hp = some q) : mjM (d + 1) 0 0 342 As hp (mjEq q) := by
  unfold F_342 at h
  split at h
  · exact c_342 hR h
  · exact mj_no h
noncomputable def F_343 (R : mjR) (As : List Value) (hp : mjH) : mjU := match As with
  | [.ref a0, .int a1, .int a2] => f_343 R a0 a1 a2 hp
  | _ => none
theorem Fk_343 {R : mjR} {d : Nat} (hR : mjC R d) {As : List Value} {hp : mjH} {q : Option Value × mjH} (h : F_343 R As hp = some q) : mjM (d + 1) 0 0 343 As hp (mjEq q) := by
  unfold F_343 at h
  split at h
  · exact c_343 hR h
  · exact mj_no h
noncomputable def F_344 (R : mjR) (As : List Value) (hp : mjH) : mjU := match As with
  | [.ref a0, .int a1] => f_344 R a0 a1 hp
  | _ => none
theorem Fk_344 {R : mjR} {d : Nat} (hR : mjC R d) {As : List Value} {hp : mjH} {q : Option Value × mjH} (h : F_344 R As hp = some q) : mjM (d + 1) 0 0 344 As hp (mjEq q) := by
  unfold F_344 at h
  split at h
  · exact c_344 hR h
  · exact mj_no h
noncomputable def F_345 (R : mjR) (As : List Value) (hp : mjH) : mjU := match As with
  | [.ref a0, .int a1, .int a2] => f_345 R a0 a1 a2 hp
  | _ => none
theorem Fk_345 {R : mjR} {d : Nat} (hR : mjC R d) {As : List Value} {hp : mjH} {q : Option Value × mjH} (h : F_345 R As hp = some q) : mjM (d + 1) 0 0 345 As hp (mjEq q) := by
  unfold F_345 at h
  split at h
  · exact c_345 hR h
  · exact mj_no h
noncomputable def F_346 (R : mjR) (As : List Value) (hp : mjH) : mjU := match As with
  | [.ref a0, .int a1, .int a2] => f_346 R a0 a1 a2 hp
  | _ => none
theorem Fk_346 {R : mjR} {d : Nat} (hR : mjC R d) {As : List Value} {hp : mjH} {q : Option Value × mjH} (h : F_346 R As hp = some q) : mjM (d + 1) 0 0 346 As hp (mjEq q) := by
  unfold F_346 at h
  split at h
  · exact c_346 hR h
  · exact mj_no h
noncomputable def F_348 (R : mjR) (As : List Value) (hp : mjH) : mjU := match As with
  | [.ref a0, .int a1, .int a2] => f_348 R a0 a1 a2 hp
  | _ => none
theorem Fk_348 {R : mjR} {d : Nat} (hR : mjC R d) {As : List Value} {hp : mjH} {q : Option Value × mjH} (h : F_348 R As hp = some q) : mjM (d + 1) 0 0 348 As hp (mjEq q) := by
  unfold F_348 at h
  split at h
  · exact c_348 hR h
  · exact mj_no h
noncomputable def F_349 (R : mjR) (As : List Value) (hp : mjH) : mjU := match As with
  | [.ref a0, .int a1, .int a2] => f_349 R a0 a1 a2 hp
  | _ => none
theorem Fk_349 {R : mjR} {d : Nat} (hR : mjC R d) {As : List Value} {hp : mjH} {q : Option Value × mjH} (h : F_349 R As hp = some q) : mjM (d + 1) 0 0 349 As hp (mjEq q) := by
  unfold F_349 at h
  split at h
  · exact c_349 hR h
  · exact mj_no h
noncomputable def F_350 (R : mjR) (As : List Value) (hp : mjH) : mjU := match As with
  | [.ref a0, .int a1, .int a2] => f_350 R a0 a1 a2 hp
  | _ => none
theorem Fk_350 {R : mjR} {d : Nat} (hR : mjC R d) {As : List Value} {hp : mjH} {q : Option Value × mjH} (h : F_350 R As hp = some q) : mjM (d + 1) 0 0 350 As hp (mjEq q) := by
  unfold F_350 at h
  split at h
  · exact c_350 hR h
  · exact mj_no h
noncomputable def F_356 (R : mjR) (As : List Value) (hp : mjH) : mjU := match As with
  | [.ref a0] => f_356 R a0 hp
  | _ => none
theorem Fk_356 {R : mjR} {d : Nat} (hR : mjC R d) {As : List Value} {hp : mjH} {q : Option Value × mjH} (h : F_356 R As hp = some q) : mjM (d + 1) 0 0 356 As hp (mjEq q) := by
  unfold F_356 at h
  split at h
  · exact c_356 hR h
  · exact mj_no h
noncomputable def F_357 (R : mjR) (As : List Value) (hp : mjH) : mjU := match As with
  | [.ref a0] => f_357 R a0 hp
  | _ => none
theorem Fk_357 {R : mjR} {d : Nat} (hR : mjC R d) {As : List Value} {hp : mjH} {q : Option Value × mjH} (h : F_357 R As hp = some q) : mjM (d + 1) 0 0 357 As hp (mjEq q) := by
  unfold F_357 at h
  split at h
  · exact c_357 hR h
  · exact mj_no h
noncomputable def F_358 (R : mjR) (As : List Value) (hp : mjH) : mjU := match As with
  | [.ref a0, .int a1] => f_358 R a0 a1 hp
  | _ => none
theorem Fk_358 {R : mjR} {d : Nat} (hR : mjC R d) {As : List Value} {hp : mjH} {q : Option Value × mjH} (h : F_358 R As hp = some q) : mjM (d + 1) 0 0 358 As hp (mjEq q) := by
  unfold F_358 at h
  split at h
  · exact c_358 hR h
  · exact mj_no h
noncomputable def F_359 (R : mjR) (As : List Value) (hp : mjH) : mjU := match As with
  | [.ref a0] => f_359 R a0 hp
  | _ => none
theorem Fk_359 {R : mjR} {d : Nat} (hR : mjC R d) {As : List Value} {hp : mjH} {q : Option Value × mjH} (h : F_359 R As hp = some q) : mjM (d + 1) 0 0 359 As hp (mjEq q) := by
  unfold F_359 at h
  split at h
  · exact c_359 hR h
  · exact mj_no h
noncomputable def F_360 (R : mjR) (As : List Value) (hp : mjH) : mjU := match As with
  | [.int a0, .int a1] => f_360 R a0 a1 hp
  | _ => none
theorem Fk_360 {R : mjR} {d : Nat} (hR : mjC R d) {As : List Value} {hp : mjH} {q : Option Value × mjH} (h : F_360 R As hp = some q) : mjM (d + 1) 0 0 360 As hp (mjEq q) := by
  unfold F_360 at h
  split at h
  · exact c_360 hR h
  · exact mj_no h
noncomputable def F_364 (R : mjR) (As : List Value) (hp : mjH) : mjU := match As with
  | [.ref a0, .int a1] => f_364 R a0 a1 hp
  | _ => none
theorem Fk_364 {R : mjR} {d : Nat} (hR : mjC R d) {As : List Value} {hp : mjH} {q : Option Value × mjH} (h : F_364 R As hp = some q) : mjM (d + 1) 0 0 364 As hp (mjEq q) := by
  unfold F_364 at h
  split at h
  · exact c_364 hR h
  · exact mj_no h
noncomputable def F_377 (R : mjR) (As : List Value) (hp : mjH) : mjU := match As with
  | [.ref a0, .int a1] => f_377 R a0 a1 hp
  | _ => none
theorem Fk_377 {R : mjR} {d : Nat} (hR : mjC R d) {As : List Value} {hp : mjH} {q : Option Value × mjH} (h : F_377 R As hp = some q) : mjM (d + 1) 0 0 377 As hp (mjEq q) := by
  unfold F_377 at h
  split at h
  · exact c_377 hR h
  · exact mj_no h
noncomputable def F_378 (R : mjR) (As : List Value) (hp : mjH) : mjU := match As with
  | [.ref a0, .long a1] => f_378 R a0 a1 hp
  | _ => none
theorem Fk_378 {R : mjR} {d : Nat} (hR : mjC R d) {As : List Value} {hp : mjH} {q : Option Value × mjH} (h : F_378 R As hp = some q) : mjM (d + 1) 0 0 378 As hp (mjEq q) := by
  unfold F_378 at h
  split at h
  · exact c_378 hR h
  · exact mj_no h
noncomputable def F_379 (R : mjR) (As : List Value) (hp : mjH) : mjU := match As with
  | [.ref a0, .int a1, .int a2, .int a3] => f_379 R a0 a1 a2 a3 hp
  | _ => none
theorem Fk_379 {R : mjR} {d : Nat} (hR : mjC R d) {As : List Value} {hp : mjH} {q : Option Value × mjH} (h : F_379 R As hp = some q) : mjM (d + 1) 0 0 379 As hp (mjEq q) := by
  unfold F_379 at h
  split at h
  · exact c_379 hR h
  · exact mj_no h
noncomputable def F_380 (R : mjR) (As : List Value) (hp : mjH) : mjU := match As with
  | [.int a0, .int a1, .int a2] => f_380 R a0 a1 a2 hp
  | _ => none
theorem Fk_380 {R : mjR} {d : Nat} (hR : mjC R d) {As : List Value} {hp : mjH} {q : Option Value × mjH} (h : F_380 R As hp = some q) : mjM (d + 1) 0 0 380 As hp (mjEq q) := by
  unfold F_380 at h
  split at h
  · exact c_380 hR h
  · exact mj_no h
noncomputable def F_381 (R : mjR) (As : List Value) (hp : mjH) : mjU := match As with
  | [.int a0, .int a1, .retAddr 0] => f_381 R a0 a1 hp
  | _ => none
theorem Fk_381 {R : mjR} {d : Nat} (hR : mjC R d) {As : List Value} {hp : mjH} {q : Option Value × mjH} (h : F_381 R As hp = some q) : mjM (d + 1) 0 0 381 As hp (mjEq q) := by
  unfold F_381 at h
  split at h
  · exact c_381 hR h
  · exact mj_no h
abbrev mjFT : Type := List Value → mjH → mjU
def F_no : mjFT := fun _ _ => none
def mjAF (d : Nat) : Nat → List mjFT → Prop
  | _, [] => True
  | j, f :: l => (∀ As hp q, f As hp = some q → mjM d 0 0 j As hp (mjEq q)) ∧ mjAF d (j + 1) l
theorem mjAF_at {d : Nat} : ∀ (l : List mjFT) (j r : Nat) (f : mjFT), mjAF d j l → l[r]? = some f → ∀ As hp q, f As hp = some q → mjM d 0 0 (j + r) As hp (mjEq q)
  | [], _, _, _, _, hf => by simp at hf
  | g :: l, j, 0, f, h, hf => by
    simp only [List.getElem?_cons_zero, Option.some.injEq] at hf
    subst hf
    exact h.1
  | g :: l, j, r + 1, f, h, hf => by
    rw [show j + (r + 1) = j + 1 + r by omega]
    exact mjAF_at l (j + 1) r f h.2 (by simpa using hf)
noncomputable def mjFb_0 (R : mjR) : List mjFT := [F_no, F_no, F_no, F_no, F_no, F_no, F_no, F_no, F_no, F_no, F_no, F_no, F_no, F_no, F_no, F_no]
theorem mjFk_0 {R : mjR} {d : Nat} (hR : mjC R d) : mjAF (d + 1) 0 (mjFb_0 R) :=
  And.intro (fun _ _ _ h => mj_no h) (And.intro (fun _ _ _ h => mj_no h) (And.intro (fun _ _ _ h => mj_no h) (And.intro (fun _ _ _ h => mj_no h) (And.intro (fun _ _ _ h => mj_no h) (And.intro (fun _ _ _ h => mj_no h) (And.intro (fun _ _ _ h => mj_no h) (And.intro (fun _ _ _ h => mj_no h) (And.intro (fun _ _ _ h => mj_no h) (And.intro (fun _ _ _ h => mj_no h) (And.intro (fun _ _ _ h => mj_no h) (And.intro (fun _ _ _ h => mj_no h) (And.intro (fun _ _ _ h => mj_no h) (And.intro (fun _ _ _ h => mj_no h) (And.intro (fun _ _ _ h => mj_no h) (And.intro (fun _ _ _ h => mj_no h) (True.intro))))))))))))))))
noncomputable def mjFb_1 (R : mjR) : List mjFT := [F_no, F_no, F_no, F_no, F_no, F_no, F_no, F_no, F_no, F_no, F_no, F_no, F_no, F_no, F_no, F_no]
theorem mjFk_1 {R : mjR} {d : Nat} (hR : mjC R d) : mjAF (d + 1) 16 (mjFb_1 R) :=
  And.intro (fun _ _ _ h => mj_no h) (And.intro (fun _ _ _ h => mj_no h) (And.intro (fun _ _ _ h => mj_no h) (And.intro (fun _ _ _ h => mj_no h) (And.intro (fun _ _ _ h => mj_no h) (And.intro (fun _ _ _ h => mj_no h) (And.intro (fun _ _ _ h => mj_no h) (And.intro (fun _ _ _ h => mj_no h) (And.intro (fun _ _ _ h => mj_no h) (And.intro (fun _ _ _ h => mj_no h) (And.intro (fun _ _ _ h => mj_no h) (And.intro (fun _ _ _ h => mj_no h) (And.intro (fun _ _ _ h => mj_no h) (And.intro (fun _ _ _ h => mj_no h) (And.intro (fun _ _ _ h => mj_no h) (And.intro (fun _ _ _ h => mj_no h) (True.intro))))))))))))))))
noncomputable def mjFb_2 (R : mjR) : List mjFT := [F_no, F_no, F_no, F_no, F_no, F_no, F_no, F_no, F_no, F_no, F_no, F_43 R, F_no, F_45 R, F_46 R, F_no]
theorem mjFk_2 {R : mjR} {d : Nat} (hR : mjC R d) : mjAF (d + 1) 32 (mjFb_2 R) :=
  And.intro (fun _ _ _ h => mj_no h) (And.intro (fun _ _ _ h => mj_no h) (And.intro (fun _ _ _ h => mj_no h) (And.intro (fun _ _ _ h => mj_no h) (And.intro (fun _ _ _ h => mj_no h) (And.intro (fun _ _ _ h => mj_no h) (And.intro (fun _ _ _ h => mj_no h) (And.intro (fun _ _ _ h => mj_no h) (And.intro (fun _ _ _ h => mj_no h) (And.intro (fun _ _ _ h => mj_no h) (And.intro (fun _ _ _ h => mj_no h) (And.intro (fun _ _ _ h => Fk_43 hR h) (And.intro (fun _ _ _ h => mj_no h) (And.intro (fun _ _ _ h => Fk_45 hR h) (And.intro (fun _ _ _ h => Fk_46 hR h) (And.intro (fun _ _ _ h => mj_no h) (True.intro))))))))))))))))
noncomputable def mjFb_3 (R : mjR) : List mjFT := [F_48 R, F_49 R, F_no, F_no, F_no, F_no, F_no, F_no, F_no, F_no, F_no, F_no, F_no, F_no, F_no, F_no]
theorem mjFk_3 {R : mjR} {d : Nat} (hR : mjC R d) : mjAF (d + 1) 48 (mjFb_3 R) :=
  And.intro (fun _ _ _ h => Fk_48 hR h) (And.intro (fun _ _ _ h => Fk_49 hR h) (And.intro (fun _ _ _ h => mj_no h) (And.intro (fun _ _ _ h => mj_no h) (And.intro (fun _ _ _ h => mj_no h) (And.intro (fun _ _ _ h => mj_no h) (And.intro (fun _ _ _ h => mj_no h) (And.intro (fun _ _ _ h => mj_no h) (And.intro (fun _ _ _ h => mj_no h) (And.intro (fun _ _ _ h => mj_no h) (And.intro (fun _ _ _ h => mj_no h) (And.intro (fun _ _ _ h => mj_no h) (And.intro (fun _ _ _ h => mj_no h) (And.intro (fun _ _ _ h => mj_no h) (And.intro (fun _ _ _ h => mj_no h) (And.intro (fun _ _ _ h => mj_no h) (True.intro))))))))))))))))
noncomputable def mjFb_4 (R : mjR) : List mjFT := [F_no, F_no, F_no, F_no, F_no, F_no, F_no, F_no, F_no, F_no, F_no, F_no, F_no, F_no, F_no, F_no]
theorem mjFk_4 {R : mjR} {d : Nat} (hR : mjC R d) : mjAF (d + 1) 64 (mjFb_4 R) :=
  And.intro (fun _ _ _ h => mj_no h) (And.intro (fun _ _ _ h => mj_no h) (And.intro (fun _ _ _ h => mj_no h) (And.intro (fun _ _ _ h => mj_no h) (And.intro (fun _ _ _ h => mj_no h) (And.intro (fun _ _ _ h => mj_no h) (And.intro (fun _ _ _ h => mj_no h) (And.intro (fun _ _ _ h => mj_no h) (And.intro (fun _ _ _ h => mj_no h) (And.intro (fun _ _ _ h => mj_no h) (And.intro (fun _ _ _ h => mj_no h) (And.intro (fun _ _ _ h => mj_no h) (And.intro (fun _ _ _ h => mj_no h) (And.intro (fun _ _ _ h => mj_no h) (And.intro (fun _ _ _ h => mj_no h) (And.intro (fun _ _ _ h => mj_no h) (True.intro))))))))))))))))
noncomputable def mjFb_5 (R : mjR) : List mjFT := [F_no, F_no, F_no, F_no, F_no, F_no, F_no, F_no, F_no, F_no, F_no, F_no, F_no, F_no, F_no, F_no]
theorem mjFk_5 {R : mjR} {d : Nat} (hR : mjC R d) : mjAF (d + 1) 80 (mjFb_5 R) :=
  And.intro (fun _ _ _ h => mj_no h) (And.intro (fun _ _ _ h => mj_no h) (And.intro (fun _ _ _ h => mj_no h) (And.intro (fun _ _ _ h => mj_no h) (And.intro (fun _ _ _ h => mj_no h) (And.intro (fun _ _ _ h => mj_no h) (And.intro (fun _ _ _ h => mj_no h) (And.intro (fun _ _ _ h => mj_no h) (And.intro (fun _ _ _ h => mj_no h) (And.intro (fun _ _ _ h => mj_no h) (And.intro (fun _ _ _ h => mj_no h) (And.intro (fun _ _ _ h => mj_no h) (And.intro (fun _ _ _ h => mj_no h) (And.intro (fun _ _ _ h => mj_no h) (And.intro (fun _ _ _ h => mj_no h) (And.intro (fun _ _ _ h => mj_no h) (True.intro))))))))))))))))
noncomputable def mjFb_6 (R : mjR) : List mjFT := [F_96 R, F_no, F_no, F_no, F_no, F_101 R, F_no, F_no, F_no, F_105 R, F_no, F_no, F_108 R, F_no, F_no, F_no]
theorem mjFk_6 {R : mjR} {d : Nat} (hR : mjC R d) : mjAF (d + 1) 96 (mjFb_6 R) :=
  And.intro (fun _ _ _ h => Fk_96 hR h) (And.intro (fun _ _ _ h => mj_no h) (And.intro (fun _ _ _ h => mj_no h) (And.intro (fun _ _ _ h => mj_no h) (And.intro (fun _ _ _ h => mj_no h) (And.intro (fun _ _ _ h => Fk_101 hR h) (And.intro (fun _ _ _ h => mj_no h) (And.intro (fun _ _ _ h => mj_no h) (And.intro (fun _ _ _ h => mj_no h) (And.intro (fun _ _ _ h => Fk_105 hR h) (And.intro (fun _ _ _ h => mj_no h) (And.intro (fun _ _ _ h => mj_no h) (And.intro (fun _ _ _ h => Fk_108 hR h) (And.intro (fun _ _ _ h => mj_no h) (And.intro (fun _ _ _ h => mj_no h) (And.intro (fun _ _ _ h => mj_no h) (True.intro))))))))))))))))
noncomputable def mjFb_7 (R : mjR) : List mjFT := [F_no, F_no, F_no, F_no, F_no, F_no, F_no, F_no, F_no, F_no, F_no, F_no, F_no, F_no, F_126 R, F_no]
theorem mjFk_7 {R : mjR} {d : Nat} (hR : mjC R d) : mjAF (d + 1) 112 (mjFb_7 R) :=
  And.intro (fun _ _ _ h => mj_no h) (And.intro (fun _ _ _ h => mj_no h) (And.intro (fun _ _ _ h => mj_no h) (And.intro (fun _ _ _ h => mj_no h) (And.intro (fun _ _ _ h => mj_no h) (And.intro (fun _ _ _ h => mj_no h) (And.intro (fun _ _ _ h => mj_no h) (And.intro (fun _ _ _ h => mj_no h) (And.intro (fun _ _ _ h => mj_no h) (And.intro (fun _ _ _ h => mj_no h) (And.intro (fun _ _ _ h => mj_no h) (And.intro (fun _ _ _ h => mj_no h) (And.intro (fun _ _ _ h => mj_no h) (And.intro (fun _ _ _ h => mj_no h) (And.intro (fun _ _ _ h => Fk_126 hR h) (And.intro (fun _ _ _ h => mj_no h) (True.intro))))))))))))))))
noncomputable def mjFb_8 (R : mjR) : List mjFT := [F_no, F_no, F_no, F_no, F_no, F_no, F_134 R, F_135 R, F_no, F_no, F_138 R, F_139 R, F_no, F_no, F_no, F_no]
theorem mjFk_8 {R : mjR} {d : Nat} (hR : mjC R d) : mjAF (d + 1) 128 (mjFb_8 R) :=
  And.intro (fun _ _ _ h => mj_no h) (And.intro (fun _ _ _ h => mj_no h) (And.intro (fun _ _ _ h => mj_no h) (And.intro (fun _ _ _ h => mj_no h) (And.intro (fun _ _ _ h => mj_no h) (And.intro (fun _ _ _ h => mj_no h) (And.intro (fun _ _ _ h => Fk_134 hR h) (And.intro (fun _ _ _ h => Fk_135 hR h) (And.intro (fun _ _ _ h => mj_no h) (And.intro (fun _ _ _ h => mj_no h) (And.intro (fun _ _ _ h => Fk_138 hR h) (And.intro (fun _ _ _ h => Fk_139 hR h) (And.intro (fun _ _ _ h => mj_no h) (And.intro (fun _ _ _ h => mj_no h) (And.intro (fun _ _ _ h => mj_no h) (And.intro (fun _ _ _ h => mj_no h) (True.intro))))))))))))))))
noncomputable def mjFb_9 (R : mjR) : List mjFT := [F_no, F_no, F_no, F_no, F_no, F_no, F_no, F_no, F_no, F_153 R, F_154 R, F_155 R, F_no, F_no, F_no, F_no]
theorem mjFk_9 {R : mjR} {d : Nat} (hR : mjC R d) : mjAF (d + 1) 144 (mjFb_9 R) :=
  And.intro (fun _ _ _ h => mj_no h) (And.intro (fun _ _ _ h => mj_no h) (And.intro (fun _ _ _ h => mj_no h) (And.intro (fun _ _ _ h => mj_no h) (And.intro (fun _ _ _ h => mj_no h) (And.intro (fun _ _ _ h => mj_no h) (And.intro (fun _ _ _ h => mj_no h) (And.intro (fun _ _ _ h => mj_no h) (And.intro (fun _ _ _ h => mj_no h) (And.intro (fun _ _ _ h => Fk_153 hR h) (And.intro (fun _ _ _ h => Fk_154 hR h) (And.intro (fun _ _ _ h => Fk_155 hR h) (And.intro (fun _ _ _ h => mj_no h) (And.intro (fun _ _ _ h => mj_no h) (And.intro (fun _ _ _ h => mj_no h) (And.intro (fun _ _ _ h => mj_no h) (True.intro))))))))))))))))
noncomputable def mjFb_10 (R : mjR) : List mjFT := [F_no, F_161 R, F_no, F_no, F_164 R, F_165 R, F_166 R, F_167 R, F_no, F_169 R, F_no, F_171 R, F_172 R, F_no, F_no, F_no]
theorem mjFk_10 {R : mjR} {d : Nat} (hR : mjC R d) : mjAF (d + 1) 160 (mjFb_10 R) :=
  And.intro (fun _ _ _ h => mj_no h) (And.intro (fun _ _ _ h => Fk_161 hR h) (And.intro (fun _ _ _ h => mj_no h) (And.intro (fun _ _ _ h => mj_no h) (And.intro (fun _ _ _ h => Fk_164 hR h) (And.intro (fun _ _ _ h => Fk_165 hR h) (And.intro (fun _ _ _ h => Fk_166 hR h) (And.intro (fun _ _ _ h => Fk_167 hR h) (And.intro (fun _ _ _ h => mj_no h) (And.intro (fun _ _ _ h => Fk_169 hR h) (And.intro (fun _ _ _ h => mj_no h) (And.intro (fun _ _ _ h => Fk_171 hR h) (And.intro (fun _ _ _ h => Fk_172 hR h) (And.intro (fun _ _ _ h => mj_no h) (And.intro (fun _ _ _ h => mj_no h) (And.intro (fun _ _ _ h => mj_no h) (True.intro))))))))))))))))
noncomputable def mjFb_11 (R : mjR) : List mjFT := [F_no, F_no, F_no, F_no, F_no, F_no, F_no, F_183 R, F_no, F_no, F_186 R, F_no, F_no, F_no, F_no, F_no]
theorem mjFk_11 {R : mjR} {d : Nat} (hR : mjC R d) : mjAF (d + 1) 176 (mjFb_11 R) :=
  And.intro (fun _ _ _ h => mj_no h) (And.intro (fun _ _ _ h => mj_no h) (And.intro (fun _ _ _ h => mj_no h) (And.intro (fun _ _ _ h => mj_no h) (And.intro (fun _ _ _ h => mj_no h) (And.intro (fun _ _ _ h => mj_no h) (And.intro (fun _ _ _ h => mj_no h) (And.intro (fun _ _ _ h => Fk_183 hR h) (And.intro (fun _ _ _ h => mj_no h) (And.intro (fun _ _ _ h => mj_no h) (And.intro (fun _ _ _ h => Fk_186 hR h) (And.intro (fun _ _ _ h => mj_no h) (And.intro (fun _ _ _ h => mj_no h) (And.intro (fun _ _ _ h => mj_no h) (And.intro (fun _ _ _ h => mj_no h) (And.intro (fun _ _ _ h => mj_no h) (True.intro))))))))))))))))
noncomputable def mjFb_12 (R : mjR) : List mjFT := [F_no, F_193 R, F_194 R, F_no, F_no, F_no, F_198 R, F_199 R, F_no, F_no, F_202 R, F_203 R, F_204 R, F_no, F_206 R, F_207 R]
theorem mjFk_12 {R : mjR} {d : Nat} (hR : mjC R d) : mjAF (d + 1) 192 (mjFb_12 R) :=
  And.intro (fun _ _ _ h => mj_no h) (And.intro (fun _ _ _ h => Fk_193 hR h) (And.intro (fun _ _ _ h => Fk_194 hR h) (And.intro (fun _ _ _ h => mj_no h) (And.intro (fun _ _ _ h => mj_no h) (And.intro (fun _ _ _ h => mj_no h) (And.intro (fun _ _ _ h => Fk_198 hR h) (And.intro (fun _ _ _ h => Fk_199 hR h) (And.intro (fun _ _ _ h => mj_no h) (And.intro (fun _ _ _ h => mj_no h) (And.intro (fun _ _ _ h => Fk_202 hR h) (And.intro (fun _ _ _ h => Fk_203 hR h) (And.intro (fun _ _ _ h => Fk_204 hR h) (And.intro (fun _ _ _ h => mj_no h) (And.intro (fun _ _ _ h => Fk_206 hR h) (And.intro (fun _ _ _ h => Fk_207 hR h) (True.intro))))))))))))))))
noncomputable def mjFb_13 (R : mjR) : List mjFT := [F_208 R, F_no, F_210 R, F_211 R, F_212 R, F_213 R, F_214 R, F_215 R, F_216 R, F_217 R, F_218 R, F_219 R, F_220 R, F_221 R, F_222 R, F_223 R]
theorem mjFk_13 {R : mjR} {d : Nat} (hR : mjC R d) : mjAF (d + 1) 208 (mjFb_13 R) :=
  And.intro (fun _ _ _ h => Fk_208 hR h) (And.intro (fun _ _ _ h => mj_no h) (And.intro (fun _ _ _ h => Fk_210 hR h) (And.intro (fun _ _ _ h => Fk_211 hR h) (And.intro (fun _ _ _ h => Fk_212 hR h) (And.intro (fun _ _ _ h => Fk_213 hR h) (And.intro (fun _ _ _ h => Fk_214 hR h) (And.intro (fun _ _ _ h => Fk_215 hR h) (And.intro (fun _ _ _ h => Fk_216 hR h) (And.intro (fun _ _ _ h => Fk_217 hR h) (And.intro (fun _ _ _ h => Fk_218 hR h) (And.intro (fun _ _ _ h => Fk_219 hR h) (And.intro (fun _ _ _ h => Fk_220 hR h) (And.intro (fun _ _ _ h => Fk_221 hR h) (And.intro (fun _ _ _ h => Fk_222 hR h) (And.intro (fun _ _ _ h => Fk_223 hR h) (True.intro))))))))))))))))
noncomputable def mjFb_14 (R : mjR) : List mjFT := [F_224 R, F_no, F_226 R, F_227 R, F_228 R, F_229 R, F_no, F_no, F_no, F_no, F_no, F_no, F_no, F_no, F_no, F_no]
theorem mjFk_14 {R : mjR} {d : Nat} (hR : mjC R d) : mjAF (d + 1) 224 (mjFb_14 R) :=
  And.intro (fun _ _ _ h => Fk_224 hR h) (And.intro (fun _ _ _ h => mj_no h) (And.intro (fun _ _ _ h => Fk_226 hR h) (And.intro (fun _ _ _ h => Fk_227 hR h) (And.intro (fun _ _ _ h => Fk_228 hR h) (And.intro (fun _ _ _ h => Fk_229 hR h) (And.intro (fun _ _ _ h => mj_no h) (And.intro (fun _ _ _ h => mj_no h) (And.intro (fun _ _ _ h => mj_no h) (And.intro (fun _ _ _ h => mj_no h) (And.intro (fun _ _ _ h => mj_no h) (And.intro (fun _ _ _ h => mj_no h) (And.intro (fun _ _ _ h => mj_no h) (And.intro (fun _ _ _ h => mj_no h) (And.intro (fun _ _ _ h => mj_no h) (And.intro (fun _ _ _ h => mj_no h) (True.intro))))))))))))))))
noncomputable def mjFb_15 (R : mjR) : List mjFT := [F_no, F_no, F_no, F_no, F_no, F_245 R, F_246 R, F_no, F_no, F_no, F_no, F_251 R, F_no, F_253 R, F_no, F_255 R]
theorem mjFk_15 {R : mjR} {d : Nat} (hR : mjC R d) : mjAF (d + 1) 240 (mjFb_15 R) :=
  And.intro (fun _ _ _ h => mj_no h) (And.intro (fun _ _ _ h => mj_no h) (And.intro (fun _ _ _ h => mj_no h) (And.intro (fun _ _ _ h => mj_no h) (And.intro (fun _ _ _ h => mj_no h) (And.intro (fun _ _ _ h => Fk_245 hR h) (And.intro (fun _ _ _ h => Fk_246 hR h) (And.intro (fun _ _ _ h => mj_no h) (And.intro (fun _ _ _ h => mj_no h) (And.intro (fun _ _ _ h => mj_no h) (And.intro (fun _ _ _ h => mj_no h) (And.intro (fun _ _ _ h => Fk_251 hR h) (And.intro (fun _ _ _ h => mj_no h) (And.intro (fun _ _ _ h => Fk_253 hR h) (And.intro (fun _ _ _ h => mj_no h) (And.intro (fun _ _ _ h => Fk_255 hR h) (True.intro))))))))))))))))
noncomputable def mjFb_16 (R : mjR) : List mjFT := [F_256 R, F_257 R, F_258 R, F_259 R, F_260 R, F_261 R, F_262 R, F_263 R, F_264 R, F_265 R, F_266 R, F_no, F_268 R, F_269 R, F_no, F_no]
theorem mjFk_16 {R : mjR} {d : Nat} (hR : mjC R d) : mjAF (d + 1) 256 (mjFb_16 R) :=
  And.intro (fun _ _ _ h => Fk_256 hR h) (And.intro (fun _ _ _ h => Fk_257 hR h) (And.intro (fun _ _ _ h => Fk_258 hR h) (And.intro (fun _ _ _ h => Fk_259 hR h) (And.intro (fun _ _ _ h => Fk_260 hR h) (And.intro (fun _ _ _ h => Fk_261 hR h) (And.intro (fun _ _ _ h => Fk_262 hR h) (And.intro (fun _ _ _ h => Fk_263 hR h) (And.intro (fun _ _ _ h => Fk_264 hR h) (And.intro (fun _ _ _ h => Fk_265 hR h) (And.intro (fun _ _ _ h => Fk_266 hR h) (And.intro (fun _ _ _ h => mj_no h) (And.intro (fun _ _ _ h => Fk_268 hR h) (And.intro (fun _ _ _ h => Fk_269 hR h) (And.intro (fun _ _ _ h => mj_no h) (And.intro (fun _ _ _ h => mj_no h) (True.intro))))))))))))))))
noncomputable def mjFb_17 (R : mjR) : List mjFT := [F_no, F_no, F_no, F_no, F_no, F_no, F_no, F_no, F_no, F_no, F_no, F_no, F_no, F_no, F_no, F_no]
theorem mjFk_17 {R : mjR} {d : Nat} (hR : mjC R d) : mjAF (d + 1) 272 (mjFb_17 R) :=
  And.intro (fun _ _ _ h => mj_no h) (And.intro (fun _ _ _ h => mj_no h) (And.intro (fun _ _ _ h => mj_no h) (And.intro (fun _ _ _ h => mj_no h) (And.intro (fun _ _ _ h => mj_no h) (And.intro (fun _ _ _ h => mj_no h) (And.intro (fun _ _ _ h => mj_no h) (And.intro (fun _ _ _ h => mj_no h) (And.intro (fun _ _ _ h => mj_no h) (And.intro (fun _ _ _ h => mj_no h) (And.intro (fun _ _ _ h => mj_no h) (And.intro (fun _ _ _ h => mj_no h) (And.intro (fun _ _ _ h => mj_no h) (And.intro (fun _ _ _ h => mj_no h) (And.intro (fun _ _ _ h => mj_no h) (And.intro (fun _ _ _ h => mj_no h) (True.intro))))))))))))))))
noncomputable def mjFb_18 (R : mjR) : List mjFT := [F_no, F_no, F_no, F_no, F_no, F_no, F_no, F_no, F_no, F_no, F_no, F_no, F_no, F_no, F_no, F_no]
theorem mjFk_18 {R : mjR} {d : Nat} (hR : mjC R d) : mjAF (d + 1) 288 (mjFb_18 R) :=
  And.intro (fun _ _ _ h => mj_no h) (And.intro (fun _ _ _ h => mj_no h) (And.intro (fun _ _ _ h => mj_no h) (And.intro (fun _ _ _ h => mj_no h) (And.intro (fun _ _ _ h => mj_no h) (And.intro (fun _ _ _ h => mj_no h) (And.intro (fun _ _ _ h => mj_no h) (And.intro (fun _ _ _ h => mj_no h) (And.intro (fun _ _ _ h => mj_no h) (And.intro (fun _ _ _ h => mj_no h) (And.intro (fun _ _ _ h => mj_no h) (And.intro (fun _ _ _ h => mj_no h) (And.intro (fun _ _ _ h => mj_no h) (And.intro (fun _ _ _ h => mj_no h) (And.intro (fun _ _ _ h => mj_no h) (And.intro (fun _ _ _ h => mj_no h) (True.intro))))))))))))))))
noncomputable def mjFb_19 (R : mjR) : List mjFT := [F_no, F_no, F_no, F_no, F_no, F_no, F_no, F_no, F_no, F_no, F_no, F_no, F_no, F_no, F_no, F_no]
theorem mjFk_19 {R : mjR} {d : Nat} (hR : mjC R d) : mjAF (d + 1) 304 (mjFb_19 R) :=
  And.intro (fun _ _ _ h => mj_no h) (And.intro (fun _ _ _ h => mj_no h) (And.intro (fun _ _ _ h => mj_no h) (And.intro (fun _ _ _ h => mj_no h) (And.intro (fun _ _ _ h => mj_no h) (And.intro (fun _ _ _ h => mj_no h) (And.intro (fun _ _ _ h => mj_no h) (And.intro (fun _ _ _ h => mj_no h) (And.intro (fun _ _ _ h => mj_no h) (And.intro (fun _ _ _ h => mj_no h) (And.intro (fun _ _ _ h => mj_no h) (And.intro (fun _ _ _ h => mj_no h) (And.intro (fun _ _ _ h => mj_no h) (And.intro (fun _ _ _ h => mj_no h) (And.intro (fun _ _ _ h => mj_no h) (And.intro (fun _ _ _ h => mj_no h) (True.intro))))))))))))))))
noncomputable def mjFb_20 (R : mjR) : List mjFT := [F_no, F_no, F_no, F_no, F_no, F_no, F_no, F_no, F_no, F_no, F_no, F_no, F_no, F_no, F_no, F_no]
theorem mjFk_20 {R : mjR} {d : Nat} (hR : mjC R d) : mjAF (d + 1) 320 (mjFb_20 R) :=
  And.intro (fun _ _ _ h => mj_no h) (And.intro (fun _ _ _ h => mj_no h) (And.intro (fun _ _ _ h => mj_no h) (And.intro (fun _ _ _ h => mj_no h) (And.intro (fun _ _ _ h => mj_no h) (And.intro (fun _ _ _ h => mj_no h) (And.intro (fun _ _ _ h => mj_no h) (And.intro (fun _ _ _ h => mj_no h) (And.intro (fun _ _ _ h => mj_no h) (And.intro (fun _ _ _ h => mj_no h) (And.intro (fun _ _ _ h => mj_no h) (And.intro (fun _ _ _ h => mj_no h) (And.intro (fun _ _ _ h => mj_no h) (And.intro (fun _ _ _ h => mj_no h) (And.intro (fun _ _ _ h => mj_no h) (And.intro (fun _ _ _ h => mj_no h) (True.intro))))))))))))))))
noncomputable def mjFb_21 (R : mjR) : List mjFT := [F_336 R, F_337 R, F_338 R, F_339 R, F_340 R, F_341 R, F_342 R, F_343 R, F_344 R, F_345 R, F_346 R, F_no, F_348 R, F_349 R, F_350 R, F_no]
theorem mjFk_21 {R : mjR} {d : Nat} (hR : mjC R d) : mjAF (d + 1) 336 (mjFb_21 R) :=
  And.intro (fun _ _ _ h => Fk_336 hR h) (And.intro (fun _ _ _ h => Fk_337 hR h) (And.intro (fun _ _ _ h => Fk_338 hR h) (And.intro (fun _ _ _ h => Fk_339 hR h) (And.intro (fun _ _ _ h => Fk_340 hR h) (And.intro (fun _ _ _ h => Fk_341 hR h) (And.intro (fun _ _ _ h => Fk_342 hR h) (And.intro (fun _ _ _ h => Fk_343 hR h) (And.intro (fun _ _ _ h => Fk_344 hR h) (And.intro (fun _ _ _ h => Fk_345 hR h) (And.intro (fun _ _ _ h => Fk_346 hR h) (And.intro (fun _ _ _ h => mj_no h) (And.intro (fun _ _ _ h => Fk_348 hR h) (And.intro (fun _ _ _ h => Fk_349 hR h) (And.intro (fun _ _ _ h => Fk_350 hR h) (And.intro (fun _ _ _ h => mj_no h) (True.intro))))))))))))))))
noncomputable def mjFb_22 (R : mjR) : List mjFT := [F_no, F_no, F_no, F_no, F_356 R, F_357 R, F_358 R, F_359 R, F_360 R, F_no, F_no, F_no, F_364 R, F_no, F_no, F_no]
theorem mjFk_22 {R : mjR} {d : Nat} (hR : mjC R d) : mjAF (d + 1) 352 (mjFb_22 R) :=
  And.intro (fun _ _ _ h => mj_no h) (And.intro (fun _ _ _ h => mj_no h) (And.intro (fun _ _ _ h => mj_no h) (And.intro (fun _ _ _ h => mj_no h) (And.intro (fun _ _ _ h => Fk_356 hR h) (And.intro (fun _ _ _ h => Fk_357 hR h) (And.intro (fun _ _ _ h => Fk_358 hR h) (And.intro (fun _ _ _ h => Fk_359 hR h) (And.intro (fun _ _ _ h => Fk_360 hR h) (And.intro (fun _ _ _ h => mj_no h) (And.intro (fun _ _ _ h => mj_no h) (And.intro (fun _ _ _ h => mj_no h) (And.intro (fun _ _ _ h => Fk_364 hR h) (And.intro (fun _ _ _ h => mj_no h) (And.intro (fun _ _ _ h => mj_no h) (And.intro (fun _ _ _ h => mj_no h) (True.intro))))))))))))))))
noncomputable def mjFb_23 (R : mjR) : List mjFT := [F_no, F_no, F_no, F_no, F_no, F_no, F_no, F_no, F_no, F_377 R, F_378 R, F_379 R, F_380 R, F_381 R, F_no]
theorem mjFk_23 {R : mjR} {d : Nat} (hR : mjC R d) : mjAF (d + 1) 368 (mjFb_23 R) :=
  And.intro (fun _ _ _ h => mj_no h) (And.intro (fun _ _ _ h => mj_no h) (And.intro (fun _ _ _ h => mj_no h) (And.intro (fun _ _ _ h => mj_no h) (And.intro (fun _ _ _ h => mj_no h) (And.intro (fun _ _ _ h => mj_no h) (And.intro (fun _ _ _ h => mj_no h) (And.intro (fun _ _ _ h => mj_no h) (And.intro (fun _ _ _ h => mj_no h) (And.intro (fun _ _ _ h => Fk_377 hR h) (And.intro (fun _ _ _ h => Fk_378 hR h) (And.intro (fun _ _ _ h => Fk_379 hR h) (And.intro (fun _ _ _ h => Fk_380 hR h) (And.intro (fun _ _ _ h => Fk_381 hR h) (And.intro (fun _ _ _ h => mj_no h) (True.intro)))))))))))))))
noncomputable def mjFt (R : mjR) : List (List mjFT) := [mjFb_0 R, mjFb_1 R, mjFb_2 R, mjFb_3 R, mjFb_4 R, mjFb_5 R, mjFb_6 R, mjFb_7 R, mjFb_8 R, mjFb_9 R, mjFb_10 R, mjFb_11 R, mjFb_12 R, mjFb_13 R, mjFb_14 R, mjFb_15 R, mjFb_16 R, mjFb_17 R, mjFb_18 R, mjFb_19 R, mjFb_20 R, mjFb_21 R, mjFb_22 R, mjFb_23 R]
noncomputable def mjFn (R : mjR) (j : Nat) (As : List Value) (hp : mjH) : mjU := match (mjFt R)[j / 16]? with
  | some b => match b[j % 16]? with
    | some f => f As hp
    | none => none
  | none => none
set_option maxRecDepth 20000 in
theorem mjFn_ok {R : mjR} {d : Nat} (hR : mjC R d) : mjC (mjFn R) (d + 1) := by
  intro j As hp q h
  unfold mjFn at h
  split at h
  · next b hb =>
    split at h
    · next f hf =>
      have hr : j % 16 < 16 := Nat.mod_lt _ (by decide)
      have hj : j = 16 * (j / 16) + j % 16 := (Nat.div_add_mod j 16).symm
      have hq : j / 16 < 24 := (List.getElem?_eq_some_iff.mp hb).1
      rw [hj]
      generalize j / 16 = z at hb hq
      generalize j % 16 = r at hf hr
      match z, hq with
      | 0, _ => cases hb; exact mjAF_at _ _ r f (mjFk_0 hR) hf As hp q h
      | 1, _ => cases hb; exact mjAF_at _ _ r f (mjFk_1 hR) hf As hp q h
      | 2, _ => cases hb; exact mjAF_at _ _ r f (mjFk_2 hR) hf As hp q h
      | 3, _ => cases hb; exact mjAF_at _ _ r f (mjFk_3 hR) hf As hp q h
      | 4, _ => cases hb; exact mjAF_at _ _ r f (mjFk_4 hR) hf As hp q h
      | 5, _ => cases hb; exact mjAF_at _ _ r f (mjFk_5 hR) hf As hp q h
      | 6, _ => cases hb; exact mjAF_at _ _ r f (mjFk_6 hR) hf As hp q h
      | 7, _ => cases hb; exact mjAF_at _ _ r f (mjFk_7 hR) hf As hp q h
      | 8, _ => cases hb; exact mjAF_at _ _ r f (mjFk_8 hR) hf As hp q h
      | 9, _ => cases hb; exact mjAF_at _ _ r f (mjFk_9 hR) hf As hp q h
      | 10, _ => cases hb; exact mjAF_at _ _ r f (mjFk_10 hR) hf As hp q h
      | 11, _ => cases hb; exact mjAF_at _ _ r f (mjFk_11 hR) hf As hp q h
      | 12, _ => cases hb; exact mjAF_at _ _ r f (mjFk_12 hR) hf As hp q h
      | 13, _ => cases hb; exact mjAF_at _ _ r f (mjFk_13 hR) hf As hp q h
      | 14, _ => cases hb; exact mjAF_at _ _ r f (mjFk_14 hR) hf As hp q h
      | 15, _ => cases hb; exact mjAF_at _ _ r f (mjFk_15 hR) hf As hp q h
      | 16, _ => cases hb; exact mjAF_at _ _ r f (mjFk_16 hR) hf As hp q h
      | 17, _ => cases hb; exact mjAF_at _ _ r f (mjFk_17 hR) hf As hp q h
      | 18, _ => cases hb; exact mjAF_at _ _ r f (mjFk_18 hR) hf As hp q h
      | 19, _ => cases hb; exact mjAF_at _ _ r f (mjFk_19 hR) hf As hp q h
      | 20, _ => cases hb; exact mjAF_at _ _ r f (mjFk_20 hR) hf As hp q h
      | 21, _ => cases hb; exact mjAF_at _ _ r f (mjFk_21 hR) hf As hp q h
      | 22, _ => cases hb; exact mjAF_at _ _ r f (mjFk_22 hR) hf As hp q h
      | 23, _ => cases hb; exact mjAF_at _ _ r f (mjFk_23 hR) hf As hp q h
    · exact mj_no h
  · exact mj_no h
noncomputable def mjF (d : Nat) : mjR := Nat.rec (motive := fun _ => mjR) (fun _ _ _ => none) (fun _ R => mjFn R) d
theorem mjF_ok (d : Nat) : mjC (mjF d) d := by
  induction d with
  | zero => intro j As hp q h; exact mj_no h
  | succ d ih => exact mjFn_ok ih
theorem e_43 {d : Nat} {a0 : Nat} {a1 : Int32} {hp : mjH} : mjF (d + 1) 43 [.ref a0, .int a1] hp = f_43 (mjF d) a0 a1 hp := rfl
theorem e_45 {d : Nat} {a0 : Nat} {a1 : Int32} {a2 : Int32} {hp : mjH} : mjF (d + 1) 45 [.ref a0, .int a1, .int a2] hp = f_45 (mjF d) a0 a1 a2 hp := rfl
theorem e_46 {d : Nat} {a0 : Nat} {a1 : Int32} {hp : mjH} : mjF (d + 1) 46 [.ref a0, .int a1] hp = f_46 (mjF d) a0 a1 hp := rfl
theorem e_48 {d : Nat} {a0 : Nat} {a1 : Int32} {hp : mjH} : mjF (d + 1) 48 [.ref a0, .int a1] hp = f_48 (mjF d) a0 a1 hp := rfl
theorem e_49 {d : Nat} {a0 : Nat} {a1 : Int32} {a2 : Int32} {hp : mjH} : mjF (d + 1) 49 [.ref a0, .int a1, .int a2] hp = f_49 (mjF d) a0 a1 a2 hp := rfl
theorem e_96 {d : Nat} {a0 : Nat} {hp : mjH} : mjF (d + 1) 96 [.ref a0] hp = f_96 (mjF d) a0 hp := rfl
theorem e_101 {d : Nat} {a0 : Nat} {hp : mjH} : mjF (d + 1) 101 [.ref a0] hp = f_101 (mjF d) a0 hp := rfl
theorem e_105 {d : Nat} {a0 : Int32} {hp : mjH} : mjF (d + 1) 105 [.int a0] hp = f_105 (mjF d) a0 hp := rfl
theorem e_108 {d : Nat} {a0 : Nat} {a1 : Int32} {hp : mjH} : mjF (d + 1) 108 [.ref a0, .int a1] hp = f_108 (mjF d) a0 a1 hp := rfl
theorem e_126 {d : Nat} {a0 : Nat} {a1 : Nat} {hp : mjH} : mjF (d + 1) 126 [.ref a0, .ref a1] hp = f_126 (mjF d) a0 a1 hp := rfl
theorem e_134 {d : Nat} {a0 : Nat} {a1 : Int32} {hp : mjH} : mjF (d + 1) 134 [.ref a0, .int a1] hp = f_134 (mjF d) a0 a1 hp := rfl
theorem e_135 {d : Nat} {a0 : Nat} {hp : mjH} : mjF (d + 1) 135 [.ref a0] hp = f_135 (mjF d) a0 hp := rfl
theorem e_138 {d : Nat} {a0 : Nat} {a1 : Int32} {hp : mjH} : mjF (d + 1) 138 [.ref a0, .int a1] hp = f_138 (mjF d) a0 a1 hp := rfl
theorem e_139 {d : Nat} {a0 : Nat} {hp : mjH} : mjF (d + 1) 139 [.ref a0] hp = f_139 (mjF d) a0 hp := rfl
theorem e_153 {d : Nat} {a0 : Int64} {a1 : Int32} {hp : mjH} : mjF (d + 1) 153 [.long a0, .int a1] hp = f_153 (mjF d) a0 a1 hp := rfl
theorem e_154 {d : Nat} {a0 : Nat} {a1 : Nat} {a2 : Int32} {hp : mjH} : mjF (d + 1) 154 [.ref a0, .ref a1, .int a2] hp = f_154 (mjF d) a0 a1 a2 hp := rfl
theorem e_155 {d : Nat} {a0 : Nat} {a1 : Int32} {a2 : Int32} {hp : mjH} : mjF (d + 1) 155 [.ref a0, .int a1, .int a2] hp = f_155 (mjF d) a0 a1 a2 hp := rfl
theorem e_161 {d : Nat} {a0 : Nat} {a1 : Int32} {a2 : Int32} {a3 : Int64} {hp : mjH} : mjF (d + 1) 161 [.ref a0, .int a1, .int a2, .long a3] hp = f_161 (mjF d) a0 a1 a2 a3 hp := rfl
theorem e_164 {d : Nat} {a0 : Nat} {a1 : Int32} {hp : mjH} : mjF (d + 1) 164 [.ref a0, .int a1] hp = f_164 (mjF d) a0 a1 hp := rfl
theorem e_165 {d : Nat} {a0 : Nat} {a1 : Int32} {hp : mjH} : mjF (d + 1) 165 [.ref a0, .int a1] hp = f_165 (mjF d) a0 a1 hp := rfl
theorem e_166 {d : Nat} {a0 : Nat} {hp : mjH} : mjF (d + 1) 166 [.ref a0] hp = f_166 (mjF d) a0 hp := rfl
theorem e_167 {d : Nat} {a0 : Nat} {hp : mjH} : mjF (d + 1) 167 [.ref a0] hp = f_167 (mjF d) a0 hp := rfl
theorem e_169 {d : Nat} {a0 : Nat} {a1 : Int32} {hp : mjH} : mjF (d + 1) 169 [.ref a0, .int a1] hp = f_169 (mjF d) a0 a1 hp := rfl
theorem e_171 {d : Nat} {a0 : Nat} {hp : mjH} : mjF (d + 1) 171 [.ref a0] hp = f_171 (mjF d) a0 hp := rfl
theorem e_172 {d : Nat} {a0 : Nat} {hp : mjH} : mjF (d + 1) 172 [.ref a0] hp = f_172 (mjF d) a0 hp := rfl
theorem e_183 {d : Nat} {a0 : Nat} {hp : mjH} : mjF (d + 1) 183 [.ref a0] hp = f_183 (mjF d) a0 hp := rfl
theorem e_186 {d : Nat} {a0 : Nat} {a1 : Int32} {a2 : Int32} {hp : mjH} : mjF (d + 1) 186 [.ref a0, .int a1, .int a2] hp = f_186 (mjF d) a0 a1 a2 hp := rfl
theorem e_193 {d : Nat} {a0 : Nat} {hp : mjH} : mjF (d + 1) 193 [.ref a0] hp = f_193 (mjF d) a0 hp := rfl
theorem e_194 {d : Nat} {a0 : Nat} {hp : mjH} : mjF (d + 1) 194 [.ref a0] hp = f_194 (mjF d) a0 hp := rfl
theorem e_198 {d : Nat} {a0 : Nat} {hp : mjH} : mjF (d + 1) 198 [.ref a0] hp = f_198 (mjF d) a0 hp := rfl
theorem e_199 {d : Nat} {a0 : Nat} {a1 : Int32} {hp : mjH} : mjF (d + 1) 199 [.ref a0, .int a1] hp = f_199 (mjF d) a0 a1 hp := rfl
theorem e_202 {d : Nat} {a0 : Nat} {a1 : Int32} {a2 : Int32} {a3 : Int32} {a4 : Int32} {a5 : Int32} {hp : mjH} : mjF (d + 1) 202 [.ref a0, .int a1, .int a2, .int a3, .int a4, .int a5] hp = f_202 (mjF d) a0 a1 a2 a3 a4 a5 hp := rfl
theorem e_203 {d : Nat} {a0 : Nat} {a1 : Int32} {hp : mjH} : mjF (d + 1) 203 [.ref a0, .int a1] hp = f_203 (mjF d) a0 a1 hp := rfl
theorem e_204 {d : Nat} {a0 : Nat} {a1 : Int32} {a2 : Int32} {hp : mjH} : mjF (d + 1) 204 [.ref a0, .int a1, .int a2] hp = f_204 (mjF d) a0 a1 a2 hp := rfl
theorem e_206 {d : Nat} {a0 : Nat} {a1 : Int32} {hp : mjH} : mjF (d + 1) 206 [.ref a0, .int a1] hp = f_206 (mjF d) a0 a1 hp := rfl
theorem e_207 {d : Nat} {a0 : Nat} {a1 : Int32} {a2 : Int32} {hp : mjH} : mjF (d + 1) 207 [.ref a0, .int a1, .int a2] hp = f_207 (mjF d) a0 a1 a2 hp := rfl
theorem e_208 {d : Nat} {a0 : Nat} {a1 : Int32} {a2 : Int32} {a3 : Int32} {hp : mjH} : mjF (d + 1) 208 [.ref a0, .int a1, .int a2, .int a3] hp = f_208 (mjF d) a0 a1 a2 a3 hp := rfl
theorem e_210 {d : Nat} {a0 : Nat} {a1 : Int32} {a2 : Int32} {hp : mjH} : mjF (d + 1) 210 [.ref a0, .int a1, .int a2] hp = f_210 (mjF d) a0 a1 a2 hp := rfl
theorem e_211 {d : Nat} {a0 : Nat} {a1 : Int32} {hp : mjH} : mjF (d + 1) 211 [.ref a0, .int a1] hp = f_211 (mjF d) a0 a1 hp := rfl
theorem e_212 {d : Nat} {a0 : Nat} {a1 : Int32} {hp : mjH} : mjF (d + 1) 212 [.ref a0, .int a1] hp = f_212 (mjF d) a0 a1 hp := rfl
theorem e_213 {d : Nat} {a0 : Nat} {a1 : Int32} {hp : mjH} : mjF (d + 1) 213 [.ref a0, .int a1] hp = f_213 (mjF d) a0 a1 hp := rfl
theorem e_214 {d : Nat} {a0 : Nat} {a1 : Int32} {a2 : Int32} {hp : mjH} : mjF (d + 1) 214 [.ref a0, .int a1, .int a2] hp = f_214 (mjF d) a0 a1 a2 hp := rfl
theorem e_215 {d : Nat} {a0 : Nat} {a1 : Int32} {a2 : Int32} {hp : mjH} : mjF (d + 1) 215 [.ref a0, .int a1, .int a2] hp = f_215 (mjF d) a0 a1 a2 hp := rfl
theorem e_216 {d : Nat} {a0 : Nat} {a1 : Int32} {a2 : Int32} {hp : mjH} : mjF (d + 1) 216 [.ref a0, .int a1, .int a2] hp = f_216 (mjF d) a0 a1 a2 hp := rfl
theorem e_217 {d : Nat} {a0 : Nat} {a1 : Int32} {a2 : Int32} {hp : mjH} : mjF (d + 1) 217 [.ref a0, .int a1, .int a2] hp = f_217 (mjF d) a0 a1 a2 hp := rfl
theorem e_218 {d : Nat} {a0 : Nat} {a1 : Int32} {a2 : Int32} {hp : mjH} : mjF (d + 1) 218 [.ref a0, .int a1, .int a2] hp = f_218 (mjF d) a0 a1 a2 hp := rfl
theorem e_219 {d : Nat} {a0 : Nat} {a1 : Int32} {a2 : Int32} {hp : mjH} : mjF (d + 1) 219 [.ref a0, .int a1, .int a2] hp = f_219 (mjF d) a0 a1 a2 hp := rfl
theorem e_220 {d : Nat} {a0 : Nat} {a1 : Int32} {a2 : Int32} {hp : mjH} : mjF (d + 1) 220 [.ref a0, .int a1, .int a2] hp = f_220 (mjF d) a0 a1 a2 hp := rfl
theorem e_221 {d : Nat} {a0 : Nat} {a1 : Int32} {hp : mjH} : mjF (d + 1) 221 [.ref a0, .int a1] hp = f_221 (mjF d) a0 a1 hp := rfl
theorem e_222 {d : Nat} {a0 : Nat} {hp : mjH} : mjF (d + 1) 222 [.ref a0] hp = f_222 (mjF d) a0 hp := rfl
theorem e_223 {d : Nat} {a0 : Nat} {a1 : Int32} {hp : mjH} : mjF (d + 1) 223 [.ref a0, .int a1] hp = f_223 (mjF d) a0 a1 hp := rfl
theorem e_224 {d : Nat} {a0 : Nat} {a1 : Int32} {a2 : Int32} {hp : mjH} : mjF (d + 1) 224 [.ref a0, .int a1, .int a2] hp = f_224 (mjF d) a0 a1 a2 hp := rfl
theorem e_226 {d : Nat} {a0 : Nat} {a1 : Int32} {a2 : Int32} {a3 : Int32} {a4 : Int32} {a5 : Int32} {a6 : Int32} {a7 : Int32} {hp : mjH} : mjF (d + 1) 226 [.ref a0, .int a1, .int a2, .int a3, .int a4, .int a5, .int a6, .int a7] hp = f_226 (mjF d) a0 a1 a2 a3 a4 a5 a6 a7 hp := rfl
theorem e_227 {d : Nat} {a0 : Int64} {a1 : Int32} {hp : mjH} : mjF (d + 1) 227 [.long a0, .int a1] hp = f_227 (mjF d) a0 a1 hp := rfl
theorem e_228 {d : Nat} {a0 : Int32} {hp : mjH} : mjF (d + 1) 228 [.int a0] hp = f_228 (mjF d) a0 hp := rfl
theorem e_229 {d : Nat} {a0 : Nat} {a1 : Int32} {hp : mjH} : mjF (d + 1) 229 [.ref a0, .int a1] hp = f_229 (mjF d) a0 a1 hp := rfl
theorem e_245 {d : Nat} {a0 : Nat} {a1 : Int32} {a2 : Int32} {hp : mjH} : mjF (d + 1) 245 [.ref a0, .int a1, .int a2] hp = f_245 (mjF d) a0 a1 a2 hp := rfl
theorem e_246 {d : Nat} {a0 : Nat} {a1 : Int32} {hp : mjH} : mjF (d + 1) 246 [.ref a0, .int a1] hp = f_246 (mjF d) a0 a1 hp := rfl
theorem e_251 {d : Nat} {a0 : Nat} {hp : mjH} : mjF (d + 1) 251 [.ref a0] hp = f_251 (mjF d) a0 hp := rfl
theorem e_253 {d : Nat} {a0 : Nat} {a1 : Int32} {hp : mjH} : mjF (d + 1) 253 [.ref a0, .int a1] hp = f_253 (mjF d) a0 a1 hp := rfl
theorem e_255 {d : Nat} {a0 : Nat} {a1 : Int32} {hp : mjH} : mjF (d + 1) 255 [.ref a0, .int a1] hp = f_255 (mjF d) a0 a1 hp := rfl
theorem e_256 {d : Nat} {a0 : Nat} {a1 : Int32} {a2 : Int32} {hp : mjH} : mjF (d + 1) 256 [.ref a0, .int a1, .int a2] hp = f_256 (mjF d) a0 a1 a2 hp := rfl
theorem e_257 {d : Nat} {a0 : Nat} {a1 : Int32} {hp : mjH} : mjF (d + 1) 257 [.ref a0, .int a1] hp = f_257 (mjF d) a0 a1 hp := rfl
theorem e_258 {d : Nat} {a0 : Nat} {a1 : Int32} {a2 : Int32} {a3 : Int32} {a4 : Int32} {a5 : Int32} {hp : mjH} : mjF (d + 1) 258 [.ref a0, .int a1, .int a2, .int a3, .int a4, .int a5] hp = f_258 (mjF d) a0 a1 a2 a3 a4 a5 hp := rfl
theorem e_259 {d : Nat} {a0 : Nat} {a1 : Int32} {hp : mjH} : mjF (d + 1) 259 [.ref a0, .int a1] hp = f_259 (mjF d) a0 a1 hp := rfl
theorem e_260 {d : Nat} {a0 : Nat} {a1 : Int32} {a2 : Int32} {hp : mjH} : mjF (d + 1) 260 [.ref a0, .int a1, .int a2] hp = f_260 (mjF d) a0 a1 a2 hp := rfl
theorem e_261 {d : Nat} {a0 : Nat} {hp : mjH} : mjF (d + 1) 261 [.ref a0] hp = f_261 (mjF d) a0 hp := rfl
theorem e_262 {d : Nat} {a0 : Nat} {hp : mjH} : mjF (d + 1) 262 [.ref a0] hp = f_262 (mjF d) a0 hp := rfl
theorem e_263 {d : Nat} {a0 : Nat} {a1 : Int32} {hp : mjH} : mjF (d + 1) 263 [.ref a0, .int a1] hp = f_263 (mjF d) a0 a1 hp := rfl
theorem e_264 {d : Nat} {a0 : Nat} {hp : mjH} : mjF (d + 1) 264 [.ref a0] hp = f_264 (mjF d) a0 hp := rfl
theorem e_265 {d : Nat} {a0 : Nat} {a1 : Int32} {hp : mjH} : mjF (d + 1) 265 [.ref a0, .int a1] hp = f_265 (mjF d) a0 a1 hp := rfl
theorem e_266 {d : Nat} {a0 : Nat} {a1 : Int32} {hp : mjH} : mjF (d + 1) 266 [.ref a0, .int a1] hp = f_266 (mjF d) a0 a1 hp := rfl
theorem e_268 {d : Nat} {a0 : Nat} {a1 : Int32} {a2 : Int32} {hp : mjH} : mjF (d + 1) 268 [.ref a0, .int a1, .int a2] hp = f_268 (mjF d) a0 a1 a2 hp := rfl
theorem e_269 {d : Nat} {a0 : Nat} {hp : mjH} : mjF (d + 1) 269 [.ref a0] hp = f_269 (mjF d) a0 hp := rfl
theorem e_336 {d : Nat} {a0 : Nat} {a1 : Int32} {hp : mjH} : mjF (d + 1) 336 [.ref a0, .int a1] hp = f_336 (mjF d) a0 a1 hp := rfl
theorem e_337 {d : Nat} {a0 : Nat} {a1 : Int32} {a2 : Int32} {hp : mjH} : mjF (d + 1) 337 [.ref a0, .int a1, .int a2] hp = f_337 (mjF d) a0 a1 a2 hp := rfl
theorem e_338 {d : Nat} {a0 : Nat} {a1 : Int32} {hp : mjH} : mjF (d + 1) 338 [.ref a0, .int a1] hp = f_338 (mjF d) a0 a1 hp := rfl
theorem e_339 {d : Nat} {a0 : Nat} {a1 : Int32} {a2 : Int32} {a3 : Int32} {hp : mjH} : mjF (d + 1) 339 [.ref a0, .int a1, .int a2, .int a3] hp = f_339 (mjF d) a0 a1 a2 a3 hp := rfl
theorem e_340 {d : Nat} {a0 : Nat} {a1 : Int32} {a2 : Int32} {hp : mjH} : mjF (d + 1) 340 [.ref a0, .int a1, .int a2] hp = f_340 (mjF d) a0 a1 a2 hp := rfl
theorem e_341 {d : Nat} {a0 : Nat} {a1 : Int32} {hp : mjH} : mjF (d + 1) 341 [.ref a0, .int a1] hp = f_341 (mjF d) a0 a1 hp := rfl
theorem e_342 {d : Nat} {a0 : Nat} {a1 : Int32} {hp : mjH} : mjF (d + 1) 342 [.ref a0, .int a1] hp = f_342 (mjF d) a0 a1 hp := rfl
theorem e_343 {d : Nat} {a0 : Nat} {a1 : Int32} {a2 : Int32} {hp : mjH} : mjF (d + 1) 343 [.ref a0, .int a1, .int a2] hp = f_343 (mjF d) a0 a1 a2 hp := rfl
theorem e_344 {d : Nat} {a0 : Nat} {a1 : Int32} {hp : mjH} : mjF (d + 1) 344 [.ref a0, .int a1] hp = f_344 (mjF d) a0 a1 hp := rfl
theorem e_345 {d : Nat} {a0 : Nat} {a1 : Int32} {a2 : Int32} {hp : mjH} : mjF (d + 1) 345 [.ref a0, .int a1, .int a2] hp = f_345 (mjF d) a0 a1 a2 hp := rfl
theorem e_346 {d : Nat} {a0 : Nat} {a1 : Int32} {a2 : Int32} {hp : mjH} : mjF (d + 1) 346 [.ref a0, .int a1, .int a2] hp = f_346 (mjF d) a0 a1 a2 hp := rfl
theorem e_348 {d : Nat} {a0 : Nat} {a1 : Int32} {a2 : Int32} {hp : mjH} : mjF (d + 1) 348 [.ref a0, .int a1, .int a2] hp = f_348 (mjF d) a0 a1 a2 hp := rfl
theorem e_349 {d : Nat} {a0 : Nat} {a1 : Int32} {a2 : Int32} {hp : mjH} : mjF (d + 1) 349 [.ref a0, .int a1, .int a2] hp = f_349 (mjF d) a0 a1 a2 hp := rfl
theorem e_350 {d : Nat} {a0 : Nat} {a1 : Int32} {a2 : Int32} {hp : mjH} : mjF (d + 1) 350 [.ref a0, .int a1, .int a2] hp = f_350 (mjF d) a0 a1 a2 hp := rfl
theorem e_356 {d : Nat} {a0 : Nat} {hp : mjH} : mjF (d + 1) 356 [.ref a0] hp = f_356 (mjF d) a0 hp := rfl
theorem e_357 {d : Nat} {a0 : Nat} {hp : mjH} : mjF (d + 1) 357 [.ref a0] hp = f_357 (mjF d) a0 hp := rfl
theorem e_358 {d : Nat} {a0 : Nat} {a1 : Int32} {hp : mjH} : mjF (d + 1) 358 [.ref a0, .int a1] hp = f_358 (mjF d) a0 a1 hp := rfl
theorem e_359 {d : Nat} {a0 : Nat} {hp : mjH} : mjF (d + 1) 359 [.ref a0] hp = f_359 (mjF d) a0 hp := rfl
theorem e_360 {d : Nat} {a0 : Int32} {a1 : Int32} {hp : mjH} : mjF (d + 1) 360 [.int a0, .int a1] hp = f_360 (mjF d) a0 a1 hp := rfl
theorem e_364 {d : Nat} {a0 : Nat} {a1 : Int32} {hp : mjH} : mjF (d + 1) 364 [.ref a0, .int a1] hp = f_364 (mjF d) a0 a1 hp := rfl
theorem e_377 {d : Nat} {a0 : Nat} {a1 : Int32} {hp : mjH} : mjF (d + 1) 377 [.ref a0, .int a1] hp = f_377 (mjF d) a0 a1 hp := rfl
theorem e_378 {d : Nat} {a0 : Nat} {a1 : Int64} {hp : mjH} : mjF (d + 1) 378 [.ref a0, .long a1] hp = f_378 (mjF d) a0 a1 hp := rfl
theorem e_379 {d : Nat} {a0 : Nat} {a1 : Int32} {a2 : Int32} {a3 : Int32} {hp : mjH} : mjF (d + 1) 379 [.ref a0, .int a1, .int a2, .int a3] hp = f_379 (mjF d) a0 a1 a2 a3 hp := rfl
theorem e_380 {d : Nat} {a0 : Int32} {a1 : Int32} {a2 : Int32} {hp : mjH} : mjF (d + 1) 380 [.int a0, .int a1, .int a2] hp = f_380 (mjF d) a0 a1 a2 hp := rfl
theorem e_381 {d : Nat} {a0 : Int32} {a1 : Int32} {hp : mjH} : mjF (d + 1) 381 [.int a0, .int a1, .retAddr 0] hp = f_381 (mjF d) a0 a1 hp := rfl
