def MW (y : MethodName) (cc : ByteArray) (maxL : Nat) (ret : Option FieldType) : Prop := Cond.code y cc maxL ret ∈ TB ∧ Cond.initialized y.cls ∈ TB
def MI (y : MethodName) : Prop := Cond.instanceMethod y ∈ TB ∧ Cond.selects y.cls y y ∈ TB
def MS (y : MethodName) : Prop := Cond.static y ∈ TB
theorem wd103 : (Jvm.Cond.initialized "TelegramFeelingsLaw") ∈ TB := tb 103 (by decide +kernel) (by decide +kernel)
theorem wd104 : (Jvm.Cond.initialized "TelegramFeelings") ∈ TB := tb 104 (by decide +kernel) (by decide +kernel)
theorem wd105 : (Jvm.Cond.initialized "TelegramFeelings$Office") ∈ TB := tb 105 (by decide +kernel) (by decide +kernel)
theorem wd106 : (Jvm.Cond.initialized "TelegramFeelings$Law") ∈ TB := tb 106 (by decide +kernel) (by decide +kernel)
theorem wd107 : (Jvm.Cond.initialized "java/lang/String") ∈ TB := tb 107 (by decide +kernel) (by decide +kernel)
theorem wd108 : (Jvm.Cond.initialized "TelegramFeelings$Shelves") ∈ TB := tb 108 (by decide +kernel) (by decide +kernel)
theorem wd109 : (Jvm.Cond.initialized "java/util/Arrays") ∈ TB := tb 109 (by decide +kernel) (by decide +kernel)
theorem wd110 : (Jvm.Cond.initialized "TelegramFeelings$Telegram") ∈ TB := tb 110 (by decide +kernel) (by decide +kernel)
theorem wd111 : (Jvm.Cond.initialized "TelegramFeelings$Sayings") ∈ TB := tb 111 (by decide +kernel) (by decide +kernel)
theorem wd112 : (Jvm.Cond.initialized "TelegramFeelings$Hearing") ∈ TB := tb 112 (by decide +kernel) (by decide +kernel)
theorem wd113 : (Jvm.Cond.initialized "TelegramFeelings$Deeds") ∈ TB := tb 113 (by decide +kernel) (by decide +kernel)
theorem wd114 : (Jvm.Cond.initialized "TelegramFeelings$Changes") ∈ TB := tb 114 (by decide +kernel) (by decide +kernel)
theorem wd115 : (Jvm.Cond.initialized "TelegramFeelings$Bodies") ∈ TB := tb 115 (by decide +kernel) (by decide +kernel)
theorem wd116 : (Jvm.Cond.initialized "TelegramFeelingsModel") ∈ TB := tb 116 (by decide +kernel) (by decide +kernel)
theorem wd117 : (Jvm.Cond.initialized "java/lang/System") ∈ TB := tb 117 (by decide +kernel) (by decide +kernel)
theorem wd118 : (Jvm.Cond.initialized "java/lang/StringLatin1") ∈ TB := tb 118 (by decide +kernel) (by decide +kernel)
theorem wd119 : (Jvm.Cond.initialized "java/lang/Math") ∈ TB := tb 119 (by decide +kernel) (by decide +kernel)
theorem wd123 : (Jvm.Cond.initialized "java/lang/Integer") ∈ TB := tb 123 (by decide +kernel) (by decide +kernel)
theorem wd124 : (Jvm.Cond.classLink "TelegramFeelingsLaw" (7 : Nat) "TelegramFeelings") ∈ TB := tb 124 (by decide +kernel) (by decide +kernel)
theorem wd125 : (Jvm.Cond.instantiable "TelegramFeelings" (9 : Nat)) ∈ TB := tb 125 (by decide +kernel) (by decide +kernel)
theorem wd126 : (Jvm.Cond.methodLink "TelegramFeelingsLaw" (9 : Nat) ({ cls := "TelegramFeelings", name := "<init>", desc := "()V" } : Jvm.MethodName)) ∈ TB := tb 126 (by decide +kernel) (by decide +kernel)
theorem wd127 : (Jvm.Cond.instanceMethod ({ cls := "TelegramFeelings", name := "<init>", desc := "()V" } : Jvm.MethodName)) ∈ TB := tb 127 (by decide +kernel) (by decide +kernel)
theorem wd128 : (Jvm.Cond.code ({ cls := "TelegramFeelings", name := "<init>", desc := "()V" } : Jvm.MethodName) prog_1_method_1_code (1 : Nat) (Option.none : Option Jvm.ClassFile.FieldType)) ∈ TB := tb 128 (by decide +kernel) (by decide +kernel)
theorem wd129 : (Jvm.Cond.methodLink "TelegramFeelings" (1 : Nat) ({ cls := "java/lang/Object", name := "<init>", desc := "()V" } : Jvm.MethodName)) ∈ TB := tb 129 (by decide +kernel) (by decide +kernel)
theorem wd130 : (Jvm.Cond.instanceMethod ({ cls := "java/lang/Object", name := "<init>", desc := "()V" } : Jvm.MethodName)) ∈ TB := tb 130 (by decide +kernel) (by decide +kernel)
theorem wd131 : (Jvm.Cond.code ({ cls := "java/lang/Object", name := "<init>", desc := "()V" } : Jvm.MethodName) object_method_1_code (1 : Nat) (Option.none : Option Jvm.ClassFile.FieldType)) ∈ TB := tb 131 (by decide +kernel) (by decide +kernel)
theorem wd132 : (Jvm.Cond.classLink "TelegramFeelings" (7 : Nat) "TelegramFeelings$Office") ∈ TB := tb 132 (by decide +kernel) (by decide +kernel)
theorem wd133 : (Jvm.Cond.instantiable "TelegramFeelings$Office" (4 : Nat)) ∈ TB := tb 133 (by decide +kernel) (by decide +kernel)
theorem wd134 : (Jvm.Cond.methodLink "TelegramFeelings" (9 : Nat) ({ cls := "TelegramFeelings$Office", name := "<init>", desc := "()V" } : Jvm.MethodName)) ∈ TB := tb 134 (by decide +kernel) (by decide +kernel)
theorem wd135 : (Jvm.Cond.instanceMethod ({ cls := "TelegramFeelings$Office", name := "<init>", desc := "()V" } : Jvm.MethodName)) ∈ TB := tb 135 (by decide +kernel) (by decide +kernel)
theorem wd136 : (Jvm.Cond.code ({ cls := "TelegramFeelings$Office", name := "<init>", desc := "()V" } : Jvm.MethodName) prog_7_method_1_code (1 : Nat) (Option.none : Option Jvm.ClassFile.FieldType)) ∈ TB := tb 136 (by decide +kernel) (by decide +kernel)
theorem wd137 : (Jvm.Cond.methodLink "TelegramFeelings$Office" (3 : Nat) ({ cls := "java/lang/Object", name := "<init>", desc := "()V" } : Jvm.MethodName)) ∈ TB := tb 137 (by decide +kernel) (by decide +kernel)
theorem wd138 : (Jvm.Cond.classLink "TelegramFeelings$Office" (9 : Nat) "[[I") ∈ TB := tb 138 (by decide +kernel) (by decide +kernel)
theorem wd140 : (Jvm.Cond.fieldLink "TelegramFeelings$Office" (11 : Nat) "TelegramFeelings$Office" "numbers" "[[I") ∈ TB := tb 140 (by decide +kernel) (by decide +kernel)
theorem wd141 : (Jvm.Cond.fieldLink "TelegramFeelings$Office" (16 : Nat) "TelegramFeelings$Office" "words" "I") ∈ TB := tb 141 (by decide +kernel) (by decide +kernel)
theorem wd142 : (Jvm.Cond.fieldLink "TelegramFeelings$Hearing" (62 : Nat) "TelegramFeelings$Office" "words" "I") ∈ TB := tb 142 (by decide +kernel) (by decide +kernel)
theorem wd143 : (Jvm.Cond.fieldLink "TelegramFeelings$Sayings" (75 : Nat) "TelegramFeelings$Office" "words" "I") ∈ TB := tb 143 (by decide +kernel) (by decide +kernel)
theorem wd144 : (Jvm.Cond.fieldLink "TelegramFeelings" (236 : Nat) "TelegramFeelings$Office" "words" "I") ∈ TB := tb 144 (by decide +kernel) (by decide +kernel)
theorem wd145 : (Jvm.Cond.fieldLink "TelegramFeelings$Office" (20 : Nat) "TelegramFeelings$Office" "people" "I") ∈ TB := tb 145 (by decide +kernel) (by decide +kernel)
theorem wd146 : (Jvm.Cond.fieldLink "TelegramFeelings$Deeds" (38 : Nat) "TelegramFeelings$Office" "people" "I") ∈ TB := tb 146 (by decide +kernel) (by decide +kernel)
theorem wd147 : (Jvm.Cond.fieldLink "TelegramFeelings" (218 : Nat) "TelegramFeelings$Office" "people" "I") ∈ TB := tb 147 (by decide +kernel) (by decide +kernel)
theorem wd148 : (Jvm.Cond.fieldLink "TelegramFeelings$Law" (56 : Nat) "TelegramFeelings$Office" "age" "I") ∈ TB := tb 148 (by decide +kernel) (by decide +kernel)
theorem wd149 : (Jvm.Cond.fieldLink "TelegramFeelings$Office" (38 : Nat) "TelegramFeelings$Office" "age" "I") ∈ TB := tb 149 (by decide +kernel) (by decide +kernel)
theorem wd150 : (Jvm.Cond.fieldLink "TelegramFeelings$Sayings" (66 : Nat) "TelegramFeelings$Office" "age" "I") ∈ TB := tb 150 (by decide +kernel) (by decide +kernel)
theorem wd160 : (Jvm.Cond.arrayClass Jvm.ClassFile.FieldType.int) ∈ TB := tb 160 (by decide +kernel) (by decide +kernel)
theorem wd161 : (Jvm.Cond.classLink "TelegramFeelings" (16 : Nat) "TelegramFeelings$Law") ∈ TB := tb 161 (by decide +kernel) (by decide +kernel)
theorem wd162 : (Jvm.Cond.instantiable "TelegramFeelings$Law" (11 : Nat)) ∈ TB := tb 162 (by decide +kernel) (by decide +kernel)
theorem wd163 : (Jvm.Cond.methodLink "TelegramFeelings" (18 : Nat) ({ cls := "TelegramFeelings$Law", name := "<init>", desc := "(LTelegramFeelings$Office;)V" } : Jvm.MethodName)) ∈ TB := tb 163 (by decide +kernel) (by decide +kernel)
theorem wd164 : (Jvm.Cond.instanceMethod ({ cls := "TelegramFeelings$Law", name := "<init>", desc := "(LTelegramFeelings$Office;)V" } : Jvm.MethodName)) ∈ TB := tb 164 (by decide +kernel) (by decide +kernel)
theorem wd165 : (Jvm.Cond.code ({ cls := "TelegramFeelings$Law", name := "<init>", desc := "(LTelegramFeelings$Office;)V" } : Jvm.MethodName) prog_6_method_1_code (2 : Nat) (Option.none : Option Jvm.ClassFile.FieldType)) ∈ TB := tb 165 (by decide +kernel) (by decide +kernel)
theorem wd166 : (Jvm.Cond.methodLink "TelegramFeelings$Law" (5 : Nat) ({ cls := "java/lang/Object", name := "<init>", desc := "()V" } : Jvm.MethodName)) ∈ TB := tb 166 (by decide +kernel) (by decide +kernel)
theorem wd168 : (Jvm.Cond.methodLink "TelegramFeelings$Law" (23 : Nat) ({ cls := "java/lang/String", name := "length", desc := "()I" } : Jvm.MethodName)) ∈ TB := tb 168 (by decide +kernel) (by decide +kernel)
theorem wd169 : (Jvm.Cond.instanceMethod ({ cls := "java/lang/String", name := "length", desc := "()I" } : Jvm.MethodName)) ∈ TB := tb 169 (by decide +kernel) (by decide +kernel)
theorem wd170 : (Jvm.Cond.selects "java/lang/String" ({ cls := "java/lang/String", name := "length", desc := "()I" } : Jvm.MethodName) ({ cls := "java/lang/String", name := "length", desc := "()I" } : Jvm.MethodName)) ∈ TB := tb 170 (by decide +kernel) (by decide +kernel)
theorem wd171 : (Jvm.Cond.code ({ cls := "java/lang/String", name := "length", desc := "()I" } : Jvm.MethodName) prog_16_method_54_code (1 : Nat) (Option.some Jvm.ClassFile.FieldType.int)) ∈ TB := tb 171 (by decide +kernel) (by decide +kernel)
theorem wd172 : (Jvm.Cond.methodLink "java/lang/String" (335 : Nat) ({ cls := "java/lang/String", name := "coder", desc := "()B" } : Jvm.MethodName)) ∈ TB := tb 172 (by decide +kernel) (by decide +kernel)
theorem wd173 : (Jvm.Cond.instanceMethod ({ cls := "java/lang/String", name := "coder", desc := "()B" } : Jvm.MethodName)) ∈ TB := tb 173 (by decide +kernel) (by decide +kernel)
theorem wd174 : (Jvm.Cond.selects "java/lang/String" ({ cls := "java/lang/String", name := "coder", desc := "()B" } : Jvm.MethodName) ({ cls := "java/lang/String", name := "coder", desc := "()B" } : Jvm.MethodName)) ∈ TB := tb 174 (by decide +kernel) (by decide +kernel)
theorem wd175 : (Jvm.Cond.code ({ cls := "java/lang/String", name := "coder", desc := "()B" } : Jvm.MethodName) prog_16_method_152_code (1 : Nat) (Option.some Jvm.ClassFile.FieldType.byte)) ∈ TB := tb 175 (by decide +kernel) (by decide +kernel)
theorem wd176 : (Jvm.Cond.fieldLink "java/lang/String" (38 : Nat) "java/lang/String" "COMPACT_STRINGS" "Z") ∈ TB := tb 176 (by decide +kernel) (by decide +kernel)
theorem wd178 : (Jvm.Cond.fieldLink "TelegramFeelings$Law" (35 : Nat) "TelegramFeelings$Law" "office" "LTelegramFeelings$Office;") ∈ TB := tb 178 (by decide +kernel) (by decide +kernel)
theorem wd179 : (Jvm.Cond.fieldLink "TelegramFeelings$Law" (11 : Nat) "TelegramFeelings$Law" "tape" "[I") ∈ TB := tb 179 (by decide +kernel) (by decide +kernel)
theorem wd180 : (Jvm.Cond.fieldLink "TelegramFeelings$Law" (39 : Nat) "TelegramFeelings$Law" "fed" "I") ∈ TB := tb 180 (by decide +kernel) (by decide +kernel)
theorem wd181 : (Jvm.Cond.fieldLink "TelegramFeelings" (305 : Nat) "TelegramFeelings$Law" "fed" "I") ∈ TB := tb 181 (by decide +kernel) (by decide +kernel)
theorem wd182 : (Jvm.Cond.fieldLink "TelegramFeelings$Law" (15 : Nat) "TelegramFeelings$Law" "signs" "[I") ∈ TB := tb 182 (by decide +kernel) (by decide +kernel)
theorem wd183 : (Jvm.Cond.fieldLink "TelegramFeelings$Law" (53 : Nat) "TelegramFeelings$Law" "many" "I") ∈ TB := tb 183 (by decide +kernel) (by decide +kernel)
theorem wd184 : (Jvm.Cond.fieldLink "TelegramFeelings$Law" (18 : Nat) "TelegramFeelings$Law" "draft" "[I") ∈ TB := tb 184 (by decide +kernel) (by decide +kernel)
theorem wd185 : (Jvm.Cond.fieldLink "TelegramFeelings$Law" (50 : Nat) "TelegramFeelings$Law" "drafted" "I") ∈ TB := tb 185 (by decide +kernel) (by decide +kernel)
theorem wd186 : (Jvm.Cond.fieldLink "TelegramFeelings$Law" (47 : Nat) "TelegramFeelings$Law" "at" "I") ∈ TB := tb 186 (by decide +kernel) (by decide +kernel)
theorem wd187 : (Jvm.Cond.fieldLink "TelegramFeelings$Law" (29 : Nat) "TelegramFeelings$Law" "named" "[I") ∈ TB := tb 187 (by decide +kernel) (by decide +kernel)
theorem wd188 : (Jvm.Cond.fieldLink "TelegramFeelings$Law" (32 : Nat) "TelegramFeelings$Law" "stack" "[I") ∈ TB := tb 188 (by decide +kernel) (by decide +kernel)
theorem wd189 : (Jvm.Cond.fieldLink "TelegramFeelings$Law" (118 : Nat) "TelegramFeelings$Law" "top" "I") ∈ TB := tb 189 (by decide +kernel) (by decide +kernel)
theorem wd213 : (Jvm.Cond.arrayClass Jvm.ClassFile.FieldType.byte) ∈ TB := tb 213 (by decide +kernel) (by decide +kernel)
theorem wd214 : (Jvm.Cond.classLink "TelegramFeelings" (25 : Nat) "TelegramFeelings$Shelves") ∈ TB := tb 214 (by decide +kernel) (by decide +kernel)
theorem wd215 : (Jvm.Cond.instantiable "TelegramFeelings$Shelves" (4 : Nat)) ∈ TB := tb 215 (by decide +kernel) (by decide +kernel)
theorem wd216 : (Jvm.Cond.methodLink "TelegramFeelings" (27 : Nat) ({ cls := "TelegramFeelings$Shelves", name := "<init>", desc := "()V" } : Jvm.MethodName)) ∈ TB := tb 216 (by decide +kernel) (by decide +kernel)
theorem wd217 : (Jvm.Cond.instanceMethod ({ cls := "TelegramFeelings$Shelves", name := "<init>", desc := "()V" } : Jvm.MethodName)) ∈ TB := tb 217 (by decide +kernel) (by decide +kernel)
theorem wd218 : (Jvm.Cond.code ({ cls := "TelegramFeelings$Shelves", name := "<init>", desc := "()V" } : Jvm.MethodName) prog_9_method_1_code (1 : Nat) (Option.none : Option Jvm.ClassFile.FieldType)) ∈ TB := tb 218 (by decide +kernel) (by decide +kernel)
theorem wd219 : (Jvm.Cond.methodLink "TelegramFeelings$Shelves" (3 : Nat) ({ cls := "java/lang/Object", name := "<init>", desc := "()V" } : Jvm.MethodName)) ∈ TB := tb 219 (by decide +kernel) (by decide +kernel)
theorem wd220 : (Jvm.Cond.classLink "TelegramFeelings$Shelves" (21 : Nat) "[[J") ∈ TB := tb 220 (by decide +kernel) (by decide +kernel)
theorem wd222 : (Jvm.Cond.methodLink "TelegramFeelings$Shelves" (26 : Nat) ({ cls := "java/util/Arrays", name := "fill", desc := "([II)V" } : Jvm.MethodName)) ∈ TB := tb 222 (by decide +kernel) (by decide +kernel)
theorem wd223 : (Jvm.Cond.static ({ cls := "java/util/Arrays", name := "fill", desc := "([II)V" } : Jvm.MethodName)) ∈ TB := tb 223 (by decide +kernel) (by decide +kernel)
theorem wd224 : (Jvm.Cond.code ({ cls := "java/util/Arrays", name := "fill", desc := "([II)V" } : Jvm.MethodName) prog_20_method_103_code (4 : Nat) (Option.none : Option Jvm.ClassFile.FieldType)) ∈ TB := tb 224 (by decide +kernel) (by decide +kernel)
theorem wd225 : (Jvm.Cond.fieldLink "TelegramFeelings$Shelves" (11 : Nat) "TelegramFeelings$Shelves" "sorts" "[I") ∈ TB := tb 225 (by decide +kernel) (by decide +kernel)
theorem wd226 : (Jvm.Cond.fieldLink "TelegramFeelings$Shelves" (15 : Nat) "TelegramFeelings$Shelves" "sizes" "[I") ∈ TB := tb 226 (by decide +kernel) (by decide +kernel)
theorem wd227 : (Jvm.Cond.fieldLink "TelegramFeelings$Shelves" (18 : Nat) "TelegramFeelings$Shelves" "bodies" "[I") ∈ TB := tb 227 (by decide +kernel) (by decide +kernel)
theorem wd228 : (Jvm.Cond.fieldLink "TelegramFeelings$Shelves" (23 : Nat) "TelegramFeelings$Shelves" "elements" "[[J") ∈ TB := tb 228 (by decide +kernel) (by decide +kernel)
theorem wd238 : (Jvm.Cond.arrayClass Jvm.ClassFile.FieldType.long) ∈ TB := tb 238 (by decide +kernel) (by decide +kernel)
theorem wd239 : (Jvm.Cond.classLink "TelegramFeelings" (32 : Nat) "TelegramFeelings$Telegram") ∈ TB := tb 239 (by decide +kernel) (by decide +kernel)
theorem wd240 : (Jvm.Cond.instantiable "TelegramFeelings$Telegram" (6 : Nat)) ∈ TB := tb 240 (by decide +kernel) (by decide +kernel)
theorem wd241 : (Jvm.Cond.methodLink "TelegramFeelings" (34 : Nat) ({ cls := "TelegramFeelings$Telegram", name := "<init>", desc := "(LTelegramFeelings$Office;LTelegramFeelings$Law;)V" } : Jvm.MethodName)) ∈ TB := tb 241 (by decide +kernel) (by decide +kernel)
theorem wd242 : (Jvm.Cond.instanceMethod ({ cls := "TelegramFeelings$Telegram", name := "<init>", desc := "(LTelegramFeelings$Office;LTelegramFeelings$Law;)V" } : Jvm.MethodName)) ∈ TB := tb 242 (by decide +kernel) (by decide +kernel)
theorem wd243 : (Jvm.Cond.code ({ cls := "TelegramFeelings$Telegram", name := "<init>", desc := "(LTelegramFeelings$Office;LTelegramFeelings$Law;)V" } : Jvm.MethodName) prog_10_method_1_code (3 : Nat) (Option.none : Option Jvm.ClassFile.FieldType)) ∈ TB := tb 243 (by decide +kernel) (by decide +kernel)
theorem wd244 : (Jvm.Cond.methodLink "TelegramFeelings$Telegram" (3 : Nat) ({ cls := "java/lang/Object", name := "<init>", desc := "()V" } : Jvm.MethodName)) ∈ TB := tb 244 (by decide +kernel) (by decide +kernel)
theorem wd245 : (Jvm.Cond.fieldLink "TelegramFeelings$Telegram" (21 : Nat) "TelegramFeelings$Telegram" "office" "LTelegramFeelings$Office;") ∈ TB := tb 245 (by decide +kernel) (by decide +kernel)
theorem wd246 : (Jvm.Cond.fieldLink "TelegramFeelings$Telegram" (25 : Nat) "TelegramFeelings$Telegram" "law" "LTelegramFeelings$Law;") ∈ TB := tb 246 (by decide +kernel) (by decide +kernel)
theorem wd247 : (Jvm.Cond.fieldLink "TelegramFeelings$Telegram" (9 : Nat) "TelegramFeelings$Telegram" "words" "[I") ∈ TB := tb 247 (by decide +kernel) (by decide +kernel)
theorem wd248 : (Jvm.Cond.fieldLink "TelegramFeelings$Telegram" (15 : Nat) "TelegramFeelings$Telegram" "prices" "[I") ∈ TB := tb 248 (by decide +kernel) (by decide +kernel)
theorem wd249 : (Jvm.Cond.fieldLink "TelegramFeelings$Telegram" (18 : Nat) "TelegramFeelings$Telegram" "least" "[I") ∈ TB := tb 249 (by decide +kernel) (by decide +kernel)
theorem wd250 : (Jvm.Cond.fieldLink "TelegramFeelings$Telegram" (29 : Nat) "TelegramFeelings$Telegram" "size" "I") ∈ TB := tb 250 (by decide +kernel) (by decide +kernel)
theorem wd251 : (Jvm.Cond.fieldLink "TelegramFeelings$Hearing" (33 : Nat) "TelegramFeelings$Telegram" "size" "I") ∈ TB := tb 251 (by decide +kernel) (by decide +kernel)
theorem wd252 : (Jvm.Cond.fieldLink "TelegramFeelings" (145 : Nat) "TelegramFeelings$Telegram" "size" "I") ∈ TB := tb 252 (by decide +kernel) (by decide +kernel)
theorem wd266 : (Jvm.Cond.classLink "TelegramFeelings" (41 : Nat) "TelegramFeelings$Sayings") ∈ TB := tb 266 (by decide +kernel) (by decide +kernel)
theorem wd267 : (Jvm.Cond.instantiable "TelegramFeelings$Sayings" (6 : Nat)) ∈ TB := tb 267 (by decide +kernel) (by decide +kernel)
theorem wd268 : (Jvm.Cond.methodLink "TelegramFeelings" (43 : Nat) ({ cls := "TelegramFeelings$Sayings", name := "<init>", desc := "(LTelegramFeelings$Office;LTelegramFeelings$Law;)V" } : Jvm.MethodName)) ∈ TB := tb 268 (by decide +kernel) (by decide +kernel)
theorem wd269 : (Jvm.Cond.instanceMethod ({ cls := "TelegramFeelings$Sayings", name := "<init>", desc := "(LTelegramFeelings$Office;LTelegramFeelings$Law;)V" } : Jvm.MethodName)) ∈ TB := tb 269 (by decide +kernel) (by decide +kernel)
theorem wd270 : (Jvm.Cond.code ({ cls := "TelegramFeelings$Sayings", name := "<init>", desc := "(LTelegramFeelings$Office;LTelegramFeelings$Law;)V" } : Jvm.MethodName) prog_8_method_1_code (3 : Nat) (Option.none : Option Jvm.ClassFile.FieldType)) ∈ TB := tb 270 (by decide +kernel) (by decide +kernel)
theorem wd271 : (Jvm.Cond.methodLink "TelegramFeelings$Sayings" (5 : Nat) ({ cls := "java/lang/Object", name := "<init>", desc := "()V" } : Jvm.MethodName)) ∈ TB := tb 271 (by decide +kernel) (by decide +kernel)
theorem wd272 : (Jvm.Cond.fieldLink "TelegramFeelings$Sayings" (25 : Nat) "TelegramFeelings$Sayings" "office" "LTelegramFeelings$Office;") ∈ TB := tb 272 (by decide +kernel) (by decide +kernel)
theorem wd273 : (Jvm.Cond.fieldLink "TelegramFeelings$Sayings" (29 : Nat) "TelegramFeelings$Sayings" "law" "LTelegramFeelings$Law;") ∈ TB := tb 273 (by decide +kernel) (by decide +kernel)
theorem wd274 : (Jvm.Cond.fieldLink "TelegramFeelings$Sayings" (11 : Nat) "TelegramFeelings$Sayings" "best" "[J") ∈ TB := tb 274 (by decide +kernel) (by decide +kernel)
theorem wd275 : (Jvm.Cond.fieldLink "TelegramFeelings$Sayings" (15 : Nat) "TelegramFeelings$Sayings" "now" "[J") ∈ TB := tb 275 (by decide +kernel) (by decide +kernel)
theorem wd276 : (Jvm.Cond.fieldLink "TelegramFeelings$Sayings" (18 : Nat) "TelegramFeelings$Sayings" "longer" "[J") ∈ TB := tb 276 (by decide +kernel) (by decide +kernel)
theorem wd277 : (Jvm.Cond.fieldLink "TelegramFeelings$Sayings" (21 : Nat) "TelegramFeelings$Sayings" "age" "I") ∈ TB := tb 277 (by decide +kernel) (by decide +kernel)
theorem wd291 : (Jvm.Cond.classLink "TelegramFeelings" (48 : Nat) "TelegramFeelings$Hearing") ∈ TB := tb 291 (by decide +kernel) (by decide +kernel)
theorem wd292 : (Jvm.Cond.instantiable "TelegramFeelings$Hearing" (6 : Nat)) ∈ TB := tb 292 (by decide +kernel) (by decide +kernel)
theorem wd293 : (Jvm.Cond.methodLink "TelegramFeelings" (50 : Nat) ({ cls := "TelegramFeelings$Hearing", name := "<init>", desc := "(LTelegramFeelings$Office;LTelegramFeelings$Telegram;)V" } : Jvm.MethodName)) ∈ TB := tb 293 (by decide +kernel) (by decide +kernel)
theorem wd294 : (Jvm.Cond.instanceMethod ({ cls := "TelegramFeelings$Hearing", name := "<init>", desc := "(LTelegramFeelings$Office;LTelegramFeelings$Telegram;)V" } : Jvm.MethodName)) ∈ TB := tb 294 (by decide +kernel) (by decide +kernel)
theorem wd295 : (Jvm.Cond.code ({ cls := "TelegramFeelings$Hearing", name := "<init>", desc := "(LTelegramFeelings$Office;LTelegramFeelings$Telegram;)V" } : Jvm.MethodName) prog_5_method_1_code (3 : Nat) (Option.none : Option Jvm.ClassFile.FieldType)) ∈ TB := tb 295 (by decide +kernel) (by decide +kernel)
theorem wd296 : (Jvm.Cond.methodLink "TelegramFeelings$Hearing" (3 : Nat) ({ cls := "java/lang/Object", name := "<init>", desc := "()V" } : Jvm.MethodName)) ∈ TB := tb 296 (by decide +kernel) (by decide +kernel)
theorem wd297 : (Jvm.Cond.fieldLink "TelegramFeelings$Hearing" (25 : Nat) "TelegramFeelings$Hearing" "office" "LTelegramFeelings$Office;") ∈ TB := tb 297 (by decide +kernel) (by decide +kernel)
theorem wd298 : (Jvm.Cond.fieldLink "TelegramFeelings$Hearing" (29 : Nat) "TelegramFeelings$Hearing" "telegram" "LTelegramFeelings$Telegram;") ∈ TB := tb 298 (by decide +kernel) (by decide +kernel)
theorem wd299 : (Jvm.Cond.fieldLink "TelegramFeelings$Hearing" (9 : Nat) "TelegramFeelings$Hearing" "now" "[J") ∈ TB := tb 299 (by decide +kernel) (by decide +kernel)
theorem wd300 : (Jvm.Cond.fieldLink "TelegramFeelings$Hearing" (15 : Nat) "TelegramFeelings$Hearing" "longer" "[J") ∈ TB := tb 300 (by decide +kernel) (by decide +kernel)
theorem wd301 : (Jvm.Cond.fieldLink "TelegramFeelings$Hearing" (18 : Nat) "TelegramFeelings$Hearing" "told" "[I") ∈ TB := tb 301 (by decide +kernel) (by decide +kernel)
theorem wd302 : (Jvm.Cond.fieldLink "TelegramFeelings$Hearing" (22 : Nat) "TelegramFeelings$Hearing" "retold" "[I") ∈ TB := tb 302 (by decide +kernel) (by decide +kernel)
theorem wd316 : (Jvm.Cond.classLink "TelegramFeelings" (57 : Nat) "TelegramFeelings$Deeds") ∈ TB := tb 316 (by decide +kernel) (by decide +kernel)
theorem wd317 : (Jvm.Cond.instantiable "TelegramFeelings$Deeds" (8 : Nat)) ∈ TB := tb 317 (by decide +kernel) (by decide +kernel)
theorem wd318 : (Jvm.Cond.methodLink "TelegramFeelings" (59 : Nat) ({ cls := "TelegramFeelings$Deeds", name := "<init>", desc := "(LTelegramFeelings$Office;)V" } : Jvm.MethodName)) ∈ TB := tb 318 (by decide +kernel) (by decide +kernel)
theorem wd319 : (Jvm.Cond.instanceMethod ({ cls := "TelegramFeelings$Deeds", name := "<init>", desc := "(LTelegramFeelings$Office;)V" } : Jvm.MethodName)) ∈ TB := tb 319 (by decide +kernel) (by decide +kernel)
theorem wd320 : (Jvm.Cond.code ({ cls := "TelegramFeelings$Deeds", name := "<init>", desc := "(LTelegramFeelings$Office;)V" } : Jvm.MethodName) prog_4_method_1_code (2 : Nat) (Option.none : Option Jvm.ClassFile.FieldType)) ∈ TB := tb 320 (by decide +kernel) (by decide +kernel)
theorem wd321 : (Jvm.Cond.methodLink "TelegramFeelings$Deeds" (3 : Nat) ({ cls := "java/lang/Object", name := "<init>", desc := "()V" } : Jvm.MethodName)) ∈ TB := tb 321 (by decide +kernel) (by decide +kernel)
theorem wd322 : (Jvm.Cond.fieldLink "TelegramFeelings$Deeds" (24 : Nat) "TelegramFeelings$Deeds" "office" "LTelegramFeelings$Office;") ∈ TB := tb 322 (by decide +kernel) (by decide +kernel)
theorem wd323 : (Jvm.Cond.fieldLink "TelegramFeelings$Deeds" (11 : Nat) "TelegramFeelings$Deeds" "led" "[I") ∈ TB := tb 323 (by decide +kernel) (by decide +kernel)
theorem wd324 : (Jvm.Cond.fieldLink "TelegramFeelings" (250 : Nat) "TelegramFeelings$Deeds" "led" "[I") ∈ TB := tb 324 (by decide +kernel) (by decide +kernel)
theorem wd325 : (Jvm.Cond.fieldLink "TelegramFeelings$Deeds" (34 : Nat) "TelegramFeelings$Deeds" "kept" "Z") ∈ TB := tb 325 (by decide +kernel) (by decide +kernel)
theorem wd326 : (Jvm.Cond.fieldLink "TelegramFeelings$Deeds" (42 : Nat) "TelegramFeelings$Deeds" "people" "I") ∈ TB := tb 326 (by decide +kernel) (by decide +kernel)
theorem wd327 : (Jvm.Cond.fieldLink "TelegramFeelings$Deeds" (43 : Nat) "TelegramFeelings$Deeds" "night" "I") ∈ TB := tb 327 (by decide +kernel) (by decide +kernel)
theorem wd328 : (Jvm.Cond.fieldLink "TelegramFeelings$Deeds" (15 : Nat) "TelegramFeelings$Deeds" "purses" "[I") ∈ TB := tb 328 (by decide +kernel) (by decide +kernel)
theorem wd329 : (Jvm.Cond.fieldLink "TelegramFeelings$Deeds" (18 : Nat) "TelegramFeelings$Deeds" "feelings" "[I") ∈ TB := tb 329 (by decide +kernel) (by decide +kernel)
theorem wd330 : (Jvm.Cond.fieldLink "TelegramFeelings$Deeds" (21 : Nat) "TelegramFeelings$Deeds" "ledThen" "[I") ∈ TB := tb 330 (by decide +kernel) (by decide +kernel)
theorem wd348 : (Jvm.Cond.classLink "TelegramFeelings" (64 : Nat) "TelegramFeelings$Changes") ∈ TB := tb 348 (by decide +kernel) (by decide +kernel)
theorem wd349 : (Jvm.Cond.instantiable "TelegramFeelings$Changes" (7 : Nat)) ∈ TB := tb 349 (by decide +kernel) (by decide +kernel)
theorem wd350 : (Jvm.Cond.methodLink "TelegramFeelings" (66 : Nat) ({ cls := "TelegramFeelings$Changes", name := "<init>", desc := "(LTelegramFeelings$Office;)V" } : Jvm.MethodName)) ∈ TB := tb 350 (by decide +kernel) (by decide +kernel)
theorem wd351 : (Jvm.Cond.instanceMethod ({ cls := "TelegramFeelings$Changes", name := "<init>", desc := "(LTelegramFeelings$Office;)V" } : Jvm.MethodName)) ∈ TB := tb 351 (by decide +kernel) (by decide +kernel)
theorem wd352 : (Jvm.Cond.code ({ cls := "TelegramFeelings$Changes", name := "<init>", desc := "(LTelegramFeelings$Office;)V" } : Jvm.MethodName) prog_3_method_1_code (2 : Nat) (Option.none : Option Jvm.ClassFile.FieldType)) ∈ TB := tb 352 (by decide +kernel) (by decide +kernel)
theorem wd353 : (Jvm.Cond.methodLink "TelegramFeelings$Changes" (3 : Nat) ({ cls := "java/lang/Object", name := "<init>", desc := "()V" } : Jvm.MethodName)) ∈ TB := tb 353 (by decide +kernel) (by decide +kernel)
theorem wd354 : (Jvm.Cond.fieldLink "TelegramFeelings$Changes" (24 : Nat) "TelegramFeelings$Changes" "office" "LTelegramFeelings$Office;") ∈ TB := tb 354 (by decide +kernel) (by decide +kernel)
theorem wd355 : (Jvm.Cond.fieldLink "TelegramFeelings$Changes" (11 : Nat) "TelegramFeelings$Changes" "numbers" "[I") ∈ TB := tb 355 (by decide +kernel) (by decide +kernel)
theorem wd356 : (Jvm.Cond.fieldLink "TelegramFeelings$Changes" (15 : Nat) "TelegramFeelings$Changes" "whats" "[I") ∈ TB := tb 356 (by decide +kernel) (by decide +kernel)
theorem wd357 : (Jvm.Cond.fieldLink "TelegramFeelings$Changes" (18 : Nat) "TelegramFeelings$Changes" "olds" "[I") ∈ TB := tb 357 (by decide +kernel) (by decide +kernel)
theorem wd358 : (Jvm.Cond.fieldLink "TelegramFeelings$Changes" (21 : Nat) "TelegramFeelings$Changes" "news" "[I") ∈ TB := tb 358 (by decide +kernel) (by decide +kernel)
theorem wd359 : (Jvm.Cond.fieldLink "TelegramFeelings$Changes" (28 : Nat) "TelegramFeelings$Changes" "done" "I") ∈ TB := tb 359 (by decide +kernel) (by decide +kernel)
theorem wd360 : (Jvm.Cond.fieldLink "TelegramFeelings" (308 : Nat) "TelegramFeelings$Changes" "done" "I") ∈ TB := tb 360 (by decide +kernel) (by decide +kernel)
theorem wd361 : (Jvm.Cond.fieldLink "TelegramFeelings$Changes" (35 : Nat) "TelegramFeelings$Changes" "size" "I") ∈ TB := tb 361 (by decide +kernel) (by decide +kernel)
theorem wd377 : (Jvm.Cond.classLink "TelegramFeelings" (71 : Nat) "TelegramFeelings$Bodies") ∈ TB := tb 377 (by decide +kernel) (by decide +kernel)
theorem wd378 : (Jvm.Cond.instantiable "TelegramFeelings$Bodies" (6 : Nat)) ∈ TB := tb 378 (by decide +kernel) (by decide +kernel)
theorem wd380 : (Jvm.Cond.instanceMethod ({ cls := "TelegramFeelings$Bodies", name := "<init>", desc := "()V" } : Jvm.MethodName)) ∈ TB := tb 380 (by decide +kernel) (by decide +kernel)
theorem wd381 : (Jvm.Cond.code ({ cls := "TelegramFeelings$Bodies", name := "<init>", desc := "()V" } : Jvm.MethodName) prog_2_method_1_code (1 : Nat) (Option.none : Option Jvm.ClassFile.FieldType)) ∈ TB := tb 381 (by decide +kernel) (by decide +kernel)
theorem wd382 : (Jvm.Cond.methodLink "TelegramFeelings$Bodies" (3 : Nat) ({ cls := "java/lang/Object", name := "<init>", desc := "()V" } : Jvm.MethodName)) ∈ TB := tb 382 (by decide +kernel) (by decide +kernel)
theorem wd383 : (Jvm.Cond.fieldLink "TelegramFeelings$Bodies" (11 : Nat) "TelegramFeelings$Bodies" "kinds" "[I") ∈ TB := tb 383 (by decide +kernel) (by decide +kernel)
theorem wd384 : (Jvm.Cond.fieldLink "TelegramFeelings$Bodies" (18 : Nat) "TelegramFeelings$Bodies" "size" "I") ∈ TB := tb 384 (by decide +kernel) (by decide +kernel)
theorem wd385 : (Jvm.Cond.fieldLink "TelegramFeelings" (278 : Nat) "TelegramFeelings$Bodies" "size" "I") ∈ TB := tb 385 (by decide +kernel) (by decide +kernel)
theorem wd386 : (Jvm.Cond.fieldLink "TelegramFeelings$Bodies" (15 : Nat) "TelegramFeelings$Bodies" "ran" "[I") ∈ TB := tb 386 (by decide +kernel) (by decide +kernel)
theorem wd387 : (Jvm.Cond.fieldLink "TelegramFeelings$Bodies" (29 : Nat) "TelegramFeelings$Bodies" "runs" "I") ∈ TB := tb 387 (by decide +kernel) (by decide +kernel)
theorem wd388 : (Jvm.Cond.fieldLink "TelegramFeelings" (311 : Nat) "TelegramFeelings$Bodies" "runs" "I") ∈ TB := tb 388 (by decide +kernel) (by decide +kernel)
theorem wd389 : (Jvm.Cond.fieldLink "TelegramFeelings$Bodies" (32 : Nat) "TelegramFeelings$Bodies" "number" "I") ∈ TB := tb 389 (by decide +kernel) (by decide +kernel)
theorem wd390 : (Jvm.Cond.fieldLink "TelegramFeelings$Bodies" (38 : Nat) "TelegramFeelings$Bodies" "own" "I") ∈ TB := tb 390 (by decide +kernel) (by decide +kernel)
theorem wd404 : (Jvm.Cond.fieldLink "TelegramFeelings" (10 : Nat) "TelegramFeelings" "office" "LTelegramFeelings$Office;") ∈ TB := tb 404 (by decide +kernel) (by decide +kernel)
theorem wd405 : (Jvm.Cond.fieldLink "TelegramFeelings" (21 : Nat) "TelegramFeelings" "law" "LTelegramFeelings$Law;") ∈ TB := tb 405 (by decide +kernel) (by decide +kernel)
theorem wd406 : (Jvm.Cond.fieldLink "TelegramFeelings" (28 : Nat) "TelegramFeelings" "shelves" "LTelegramFeelings$Shelves;") ∈ TB := tb 406 (by decide +kernel) (by decide +kernel)
theorem wd407 : (Jvm.Cond.fieldLink "TelegramFeelings" (37 : Nat) "TelegramFeelings" "telegram" "LTelegramFeelings$Telegram;") ∈ TB := tb 407 (by decide +kernel) (by decide +kernel)
theorem wd408 : (Jvm.Cond.fieldLink "TelegramFeelings" (44 : Nat) "TelegramFeelings" "sayings" "LTelegramFeelings$Sayings;") ∈ TB := tb 408 (by decide +kernel) (by decide +kernel)
theorem wd409 : (Jvm.Cond.fieldLink "TelegramFeelings" (53 : Nat) "TelegramFeelings" "hearing" "LTelegramFeelings$Hearing;") ∈ TB := tb 409 (by decide +kernel) (by decide +kernel)
theorem wd410 : (Jvm.Cond.fieldLink "TelegramFeelings" (60 : Nat) "TelegramFeelings" "deeds" "LTelegramFeelings$Deeds;") ∈ TB := tb 410 (by decide +kernel) (by decide +kernel)
theorem wd411 : (Jvm.Cond.fieldLink "TelegramFeelings" (67 : Nat) "TelegramFeelings" "changes" "LTelegramFeelings$Changes;") ∈ TB := tb 411 (by decide +kernel) (by decide +kernel)
theorem wd412 : (Jvm.Cond.fieldLink "TelegramFeelings" (74 : Nat) "TelegramFeelings" "bodies" "LTelegramFeelings$Bodies;") ∈ TB := tb 412 (by decide +kernel) (by decide +kernel)
theorem wd432 : (Jvm.Cond.methodLink "TelegramFeelingsLaw" (13 : Nat) ({ cls := "TelegramFeelings", name := "word", desc := "(II)I" } : Jvm.MethodName)) ∈ TB := tb 432 (by decide +kernel) (by decide +kernel)
theorem wd433 : (Jvm.Cond.instanceMethod ({ cls := "TelegramFeelings", name := "word", desc := "(II)I" } : Jvm.MethodName)) ∈ TB := tb 433 (by decide +kernel) (by decide +kernel)
theorem wd434 : (Jvm.Cond.selects "TelegramFeelings" ({ cls := "TelegramFeelings", name := "word", desc := "(II)I" } : Jvm.MethodName) ({ cls := "TelegramFeelings", name := "word", desc := "(II)I" } : Jvm.MethodName)) ∈ TB := tb 434 (by decide +kernel) (by decide +kernel)
theorem wd435 : (Jvm.Cond.code ({ cls := "TelegramFeelings", name := "word", desc := "(II)I" } : Jvm.MethodName) prog_1_method_2_code (3 : Nat) (Option.some Jvm.ClassFile.FieldType.int)) ∈ TB := tb 435 (by decide +kernel) (by decide +kernel)
theorem wd436 : (Jvm.Cond.methodLink "TelegramFeelings" (78 : Nat) ({ cls := "TelegramFeelings$Office", name := "fits", desc := "(II)Z" } : Jvm.MethodName)) ∈ TB := tb 436 (by decide +kernel) (by decide +kernel)
theorem wd437 : (Jvm.Cond.instanceMethod ({ cls := "TelegramFeelings$Office", name := "fits", desc := "(II)Z" } : Jvm.MethodName)) ∈ TB := tb 437 (by decide +kernel) (by decide +kernel)
theorem wd438 : (Jvm.Cond.selects "TelegramFeelings$Office" ({ cls := "TelegramFeelings$Office", name := "fits", desc := "(II)Z" } : Jvm.MethodName) ({ cls := "TelegramFeelings$Office", name := "fits", desc := "(II)Z" } : Jvm.MethodName)) ∈ TB := tb 438 (by decide +kernel) (by decide +kernel)
theorem wd439 : (Jvm.Cond.code ({ cls := "TelegramFeelings$Office", name := "fits", desc := "(II)Z" } : Jvm.MethodName) prog_7_method_3_code (3 : Nat) (Option.some Jvm.ClassFile.FieldType.boolean)) ∈ TB := tb 439 (by decide +kernel) (by decide +kernel)
theorem wd440 : (Jvm.Cond.fieldLink "TelegramFeelings$Office" (23 : Nat) "TelegramFeelings$Office" "LEAST" "[I") ∈ TB := tb 440 (by decide +kernel) (by decide +kernel)
theorem wd442 : (Jvm.Cond.fieldLink "TelegramFeelings$Office" (27 : Nat) "TelegramFeelings$Office" "MOST" "[I") ∈ TB := tb 442 (by decide +kernel) (by decide +kernel)
theorem wd445 : (Jvm.Cond.static ({ cls := "TelegramFeelings", name := "between", desc := "(III)Z" } : Jvm.MethodName)) ∈ TB := tb 445 (by decide +kernel) (by decide +kernel)
theorem wd446 : (Jvm.Cond.code ({ cls := "TelegramFeelings", name := "between", desc := "(III)Z" } : Jvm.MethodName) prog_1_method_51_code (3 : Nat) (Option.some Jvm.ClassFile.FieldType.boolean)) ∈ TB := tb 446 (by decide +kernel) (by decide +kernel)
theorem wd447 : (Jvm.Cond.methodLink "TelegramFeelings" (82 : Nat) ({ cls := "TelegramFeelings$Office", name := "addWord", desc := "(III)I" } : Jvm.MethodName)) ∈ TB := tb 447 (by decide +kernel) (by decide +kernel)
theorem wd448 : (Jvm.Cond.instanceMethod ({ cls := "TelegramFeelings$Office", name := "addWord", desc := "(III)I" } : Jvm.MethodName)) ∈ TB := tb 448 (by decide +kernel) (by decide +kernel)
theorem wd449 : (Jvm.Cond.selects "TelegramFeelings$Office" ({ cls := "TelegramFeelings$Office", name := "addWord", desc := "(III)I" } : Jvm.MethodName) ({ cls := "TelegramFeelings$Office", name := "addWord", desc := "(III)I" } : Jvm.MethodName)) ∈ TB := tb 449 (by decide +kernel) (by decide +kernel)
theorem wd450 : (Jvm.Cond.code ({ cls := "TelegramFeelings$Office", name := "addWord", desc := "(III)I" } : Jvm.MethodName) prog_7_method_6_code (5 : Nat) (Option.some Jvm.ClassFile.FieldType.int)) ∈ TB := tb 450 (by decide +kernel) (by decide +kernel)
theorem wd451 : (Jvm.Cond.methodLink "TelegramFeelings$Office" (41 : Nat) ({ cls := "TelegramFeelings$Office", name := "set", desc := "(III)V" } : Jvm.MethodName)) ∈ TB := tb 451 (by decide +kernel) (by decide +kernel)
theorem wd452 : (Jvm.Cond.instanceMethod ({ cls := "TelegramFeelings$Office", name := "set", desc := "(III)V" } : Jvm.MethodName)) ∈ TB := tb 452 (by decide +kernel) (by decide +kernel)
theorem wd453 : (Jvm.Cond.selects "TelegramFeelings$Office" ({ cls := "TelegramFeelings$Office", name := "set", desc := "(III)V" } : Jvm.MethodName) ({ cls := "TelegramFeelings$Office", name := "set", desc := "(III)V" } : Jvm.MethodName)) ∈ TB := tb 453 (by decide +kernel) (by decide +kernel)
theorem wd454 : (Jvm.Cond.code ({ cls := "TelegramFeelings$Office", name := "set", desc := "(III)V" } : Jvm.MethodName) prog_7_method_5_code (4 : Nat) (Option.none : Option Jvm.ClassFile.FieldType)) ∈ TB := tb 454 (by decide +kernel) (by decide +kernel)
theorem wd455 : (Jvm.Cond.methodLink "TelegramFeelings$Office" (34 : Nat) ({ cls := "TelegramFeelings$Office", name := "has", desc := "(II)Z" } : Jvm.MethodName)) ∈ TB := tb 455 (by decide +kernel) (by decide +kernel)
theorem wd456 : (Jvm.Cond.instanceMethod ({ cls := "TelegramFeelings$Office", name := "has", desc := "(II)Z" } : Jvm.MethodName)) ∈ TB := tb 456 (by decide +kernel) (by decide +kernel)
theorem wd457 : (Jvm.Cond.selects "TelegramFeelings$Office" ({ cls := "TelegramFeelings$Office", name := "has", desc := "(II)Z" } : Jvm.MethodName) ({ cls := "TelegramFeelings$Office", name := "has", desc := "(II)Z" } : Jvm.MethodName)) ∈ TB := tb 457 (by decide +kernel) (by decide +kernel)
theorem wd458 : (Jvm.Cond.code ({ cls := "TelegramFeelings$Office", name := "has", desc := "(II)Z" } : Jvm.MethodName) prog_7_method_2_code (3 : Nat) (Option.some Jvm.ClassFile.FieldType.boolean)) ∈ TB := tb 458 (by decide +kernel) (by decide +kernel)
theorem wd459 : (Jvm.Cond.methodLink "TelegramFeelingsLaw" (18 : Nat) ({ cls := "TelegramFeelings", name := "words", desc := "(III)I" } : Jvm.MethodName)) ∈ TB := tb 459 (by decide +kernel) (by decide +kernel)
theorem wd460 : (Jvm.Cond.instanceMethod ({ cls := "TelegramFeelings", name := "words", desc := "(III)I" } : Jvm.MethodName)) ∈ TB := tb 460 (by decide +kernel) (by decide +kernel)
theorem wd461 : (Jvm.Cond.selects "TelegramFeelings" ({ cls := "TelegramFeelings", name := "words", desc := "(III)I" } : Jvm.MethodName) ({ cls := "TelegramFeelings", name := "words", desc := "(III)I" } : Jvm.MethodName)) ∈ TB := tb 461 (by decide +kernel) (by decide +kernel)
theorem wd462 : (Jvm.Cond.code ({ cls := "TelegramFeelings", name := "words", desc := "(III)I" } : Jvm.MethodName) prog_1_method_3_code (6 : Nat) (Option.some Jvm.ClassFile.FieldType.int)) ∈ TB := tb 462 (by decide +kernel) (by decide +kernel)
theorem wd463 : (Jvm.Cond.methodLink "TelegramFeelings" (86 : Nat) ({ cls := "TelegramFeelings", name := "between", desc := "(III)Z" } : Jvm.MethodName)) ∈ TB := tb 463 (by decide +kernel) (by decide +kernel)
theorem wd464 : (Jvm.Cond.methodLink "TelegramFeelings" (90 : Nat) ({ cls := "TelegramFeelings$Shelves", name := "refusal", desc := "(II)I" } : Jvm.MethodName)) ∈ TB := tb 464 (by decide +kernel) (by decide +kernel)
theorem wd465 : (Jvm.Cond.instanceMethod ({ cls := "TelegramFeelings$Shelves", name := "refusal", desc := "(II)I" } : Jvm.MethodName)) ∈ TB := tb 465 (by decide +kernel) (by decide +kernel)
theorem wd466 : (Jvm.Cond.selects "TelegramFeelings$Shelves" ({ cls := "TelegramFeelings$Shelves", name := "refusal", desc := "(II)I" } : Jvm.MethodName) ({ cls := "TelegramFeelings$Shelves", name := "refusal", desc := "(II)I" } : Jvm.MethodName)) ∈ TB := tb 466 (by decide +kernel) (by decide +kernel)
theorem wd467 : (Jvm.Cond.code ({ cls := "TelegramFeelings$Shelves", name := "refusal", desc := "(II)I" } : Jvm.MethodName) prog_9_method_3_code (3 : Nat) (Option.some Jvm.ClassFile.FieldType.int)) ∈ TB := tb 467 (by decide +kernel) (by decide +kernel)
theorem wd468 : (Jvm.Cond.methodLink "TelegramFeelings$Shelves" (32 : Nat) ({ cls := "TelegramFeelings$Shelves", name := "has", desc := "(I)Z" } : Jvm.MethodName)) ∈ TB := tb 468 (by decide +kernel) (by decide +kernel)
theorem wd469 : (Jvm.Cond.instanceMethod ({ cls := "TelegramFeelings$Shelves", name := "has", desc := "(I)Z" } : Jvm.MethodName)) ∈ TB := tb 469 (by decide +kernel) (by decide +kernel)
theorem wd470 : (Jvm.Cond.selects "TelegramFeelings$Shelves" ({ cls := "TelegramFeelings$Shelves", name := "has", desc := "(I)Z" } : Jvm.MethodName) ({ cls := "TelegramFeelings$Shelves", name := "has", desc := "(I)Z" } : Jvm.MethodName)) ∈ TB := tb 470 (by decide +kernel) (by decide +kernel)
theorem wd471 : (Jvm.Cond.code ({ cls := "TelegramFeelings$Shelves", name := "has", desc := "(I)Z" } : Jvm.MethodName) prog_9_method_2_code (2 : Nat) (Option.some Jvm.ClassFile.FieldType.boolean)) ∈ TB := tb 471 (by decide +kernel) (by decide +kernel)
theorem wd472 : (Jvm.Cond.methodLink "TelegramFeelings" (94 : Nat) ({ cls := "TelegramFeelings$Shelves", name := "sizeOf", desc := "(I)I" } : Jvm.MethodName)) ∈ TB := tb 472 (by decide +kernel) (by decide +kernel)
theorem wd473 : (Jvm.Cond.instanceMethod ({ cls := "TelegramFeelings$Shelves", name := "sizeOf", desc := "(I)I" } : Jvm.MethodName)) ∈ TB := tb 473 (by decide +kernel) (by decide +kernel)
theorem wd474 : (Jvm.Cond.selects "TelegramFeelings$Shelves" ({ cls := "TelegramFeelings$Shelves", name := "sizeOf", desc := "(I)I" } : Jvm.MethodName) ({ cls := "TelegramFeelings$Shelves", name := "sizeOf", desc := "(I)I" } : Jvm.MethodName)) ∈ TB := tb 474 (by decide +kernel) (by decide +kernel)
theorem wd475 : (Jvm.Cond.code ({ cls := "TelegramFeelings$Shelves", name := "sizeOf", desc := "(I)I" } : Jvm.MethodName) prog_9_method_5_code (2 : Nat) (Option.some Jvm.ClassFile.FieldType.int)) ∈ TB := tb 475 (by decide +kernel) (by decide +kernel)
theorem wd476 : (Jvm.Cond.methodLink "TelegramFeelings" (98 : Nat) ({ cls := "TelegramFeelings", name := "wordFrom", desc := "(II)Z" } : Jvm.MethodName)) ∈ TB := tb 476 (by decide +kernel) (by decide +kernel)
theorem wd478 : (Jvm.Cond.instanceMethod ({ cls := "TelegramFeelings", name := "wordFrom", desc := "(II)Z" } : Jvm.MethodName)) ∈ TB := tb 478 (by decide +kernel) (by decide +kernel)
theorem wd479 : (Jvm.Cond.code ({ cls := "TelegramFeelings", name := "wordFrom", desc := "(II)Z" } : Jvm.MethodName) prog_1_method_4_code (6 : Nat) (Option.some Jvm.ClassFile.FieldType.boolean)) ∈ TB := tb 479 (by decide +kernel) (by decide +kernel)
theorem wd480 : (Jvm.Cond.methodLink "TelegramFeelings" (101 : Nat) ({ cls := "TelegramFeelings$Shelves", name := "at", desc := "(II)J" } : Jvm.MethodName)) ∈ TB := tb 480 (by decide +kernel) (by decide +kernel)
theorem wd481 : (Jvm.Cond.instanceMethod ({ cls := "TelegramFeelings$Shelves", name := "at", desc := "(II)J" } : Jvm.MethodName)) ∈ TB := tb 481 (by decide +kernel) (by decide +kernel)
theorem wd482 : (Jvm.Cond.selects "TelegramFeelings$Shelves" ({ cls := "TelegramFeelings$Shelves", name := "at", desc := "(II)J" } : Jvm.MethodName) ({ cls := "TelegramFeelings$Shelves", name := "at", desc := "(II)J" } : Jvm.MethodName)) ∈ TB := tb 482 (by decide +kernel) (by decide +kernel)
theorem wd483 : (Jvm.Cond.code ({ cls := "TelegramFeelings$Shelves", name := "at", desc := "(II)J" } : Jvm.MethodName) prog_9_method_9_code (3 : Nat) (Option.some Jvm.ClassFile.FieldType.long)) ∈ TB := tb 483 (by decide +kernel) (by decide +kernel)
theorem wd484 : (Jvm.Cond.methodLink "TelegramFeelingsLaw" (23 : Nat) ({ cls := "TelegramFeelings", name := "person", desc := "(I)I" } : Jvm.MethodName)) ∈ TB := tb 484 (by decide +kernel) (by decide +kernel)
theorem wd485 : (Jvm.Cond.instanceMethod ({ cls := "TelegramFeelings", name := "person", desc := "(I)I" } : Jvm.MethodName)) ∈ TB := tb 485 (by decide +kernel) (by decide +kernel)
theorem wd486 : (Jvm.Cond.selects "TelegramFeelings" ({ cls := "TelegramFeelings", name := "person", desc := "(I)I" } : Jvm.MethodName) ({ cls := "TelegramFeelings", name := "person", desc := "(I)I" } : Jvm.MethodName)) ∈ TB := tb 486 (by decide +kernel) (by decide +kernel)
theorem wd487 : (Jvm.Cond.code ({ cls := "TelegramFeelings", name := "person", desc := "(I)I" } : Jvm.MethodName) prog_1_method_5_code (2 : Nat) (Option.some Jvm.ClassFile.FieldType.int)) ∈ TB := tb 487 (by decide +kernel) (by decide +kernel)
theorem wd488 : (Jvm.Cond.methodLink "TelegramFeelings" (105 : Nat) ({ cls := "TelegramFeelings$Office", name := "addPerson", desc := "(I)I" } : Jvm.MethodName)) ∈ TB := tb 488 (by decide +kernel) (by decide +kernel)
theorem wd489 : (Jvm.Cond.instanceMethod ({ cls := "TelegramFeelings$Office", name := "addPerson", desc := "(I)I" } : Jvm.MethodName)) ∈ TB := tb 489 (by decide +kernel) (by decide +kernel)
theorem wd490 : (Jvm.Cond.selects "TelegramFeelings$Office" ({ cls := "TelegramFeelings$Office", name := "addPerson", desc := "(I)I" } : Jvm.MethodName) ({ cls := "TelegramFeelings$Office", name := "addPerson", desc := "(I)I" } : Jvm.MethodName)) ∈ TB := tb 490 (by decide +kernel) (by decide +kernel)
theorem wd491 : (Jvm.Cond.code ({ cls := "TelegramFeelings$Office", name := "addPerson", desc := "(I)I" } : Jvm.MethodName) prog_7_method_7_code (3 : Nat) (Option.some Jvm.ClassFile.FieldType.int)) ∈ TB := tb 491 (by decide +kernel) (by decide +kernel)
theorem wd492 : (Jvm.Cond.methodLink "TelegramFeelingsLaw" (28 : Nat) ({ cls := "TelegramFeelings", name := "mend", desc := "(III)I" } : Jvm.MethodName)) ∈ TB := tb 492 (by decide +kernel) (by decide +kernel)
theorem wd493 : (Jvm.Cond.instanceMethod ({ cls := "TelegramFeelings", name := "mend", desc := "(III)I" } : Jvm.MethodName)) ∈ TB := tb 493 (by decide +kernel) (by decide +kernel)
theorem wd494 : (Jvm.Cond.selects "TelegramFeelings" ({ cls := "TelegramFeelings", name := "mend", desc := "(III)I" } : Jvm.MethodName) ({ cls := "TelegramFeelings", name := "mend", desc := "(III)I" } : Jvm.MethodName)) ∈ TB := tb 494 (by decide +kernel) (by decide +kernel)
theorem wd495 : (Jvm.Cond.code ({ cls := "TelegramFeelings", name := "mend", desc := "(III)I" } : Jvm.MethodName) prog_1_method_6_code (5 : Nat) (Option.some Jvm.ClassFile.FieldType.int)) ∈ TB := tb 495 (by decide +kernel) (by decide +kernel)
theorem wd496 : (Jvm.Cond.methodLink "TelegramFeelings" (108 : Nat) ({ cls := "TelegramFeelings$Office", name := "has", desc := "(II)Z" } : Jvm.MethodName)) ∈ TB := tb 496 (by decide +kernel) (by decide +kernel)
theorem wd497 : (Jvm.Cond.methodLink "TelegramFeelings" (111 : Nat) ({ cls := "TelegramFeelings$Office", name := "value", desc := "(II)I" } : Jvm.MethodName)) ∈ TB := tb 497 (by decide +kernel) (by decide +kernel)
theorem wd498 : (Jvm.Cond.instanceMethod ({ cls := "TelegramFeelings$Office", name := "value", desc := "(II)I" } : Jvm.MethodName)) ∈ TB := tb 498 (by decide +kernel) (by decide +kernel)
theorem wd499 : (Jvm.Cond.selects "TelegramFeelings$Office" ({ cls := "TelegramFeelings$Office", name := "value", desc := "(II)I" } : Jvm.MethodName) ({ cls := "TelegramFeelings$Office", name := "value", desc := "(II)I" } : Jvm.MethodName)) ∈ TB := tb 499 (by decide +kernel) (by decide +kernel)
theorem wd500 : (Jvm.Cond.code ({ cls := "TelegramFeelings$Office", name := "value", desc := "(II)I" } : Jvm.MethodName) prog_7_method_4_code (3 : Nat) (Option.some Jvm.ClassFile.FieldType.int)) ∈ TB := tb 500 (by decide +kernel) (by decide +kernel)
theorem wd501 : (Jvm.Cond.methodLink "TelegramFeelings" (114 : Nat) ({ cls := "TelegramFeelings$Office", name := "set", desc := "(III)V" } : Jvm.MethodName)) ∈ TB := tb 501 (by decide +kernel) (by decide +kernel)
theorem wd502 : (Jvm.Cond.methodLink "TelegramFeelings" (118 : Nat) ({ cls := "TelegramFeelings$Changes", name := "note", desc := "(IIII)V" } : Jvm.MethodName)) ∈ TB := tb 502 (by decide +kernel) (by decide +kernel)
theorem wd503 : (Jvm.Cond.instanceMethod ({ cls := "TelegramFeelings$Changes", name := "note", desc := "(IIII)V" } : Jvm.MethodName)) ∈ TB := tb 503 (by decide +kernel) (by decide +kernel)
theorem wd504 : (Jvm.Cond.selects "TelegramFeelings$Changes" ({ cls := "TelegramFeelings$Changes", name := "note", desc := "(IIII)V" } : Jvm.MethodName) ({ cls := "TelegramFeelings$Changes", name := "note", desc := "(IIII)V" } : Jvm.MethodName)) ∈ TB := tb 504 (by decide +kernel) (by decide +kernel)
theorem wd505 : (Jvm.Cond.code ({ cls := "TelegramFeelings$Changes", name := "note", desc := "(IIII)V" } : Jvm.MethodName) prog_3_method_2_code (5 : Nat) (Option.none : Option Jvm.ClassFile.FieldType)) ∈ TB := tb 505 (by decide +kernel) (by decide +kernel)
theorem wd506 : (Jvm.Cond.methodLink "TelegramFeelings$Changes" (32 : Nat) ({ cls := "TelegramFeelings$Changes", name := "dropFirst", desc := "()V" } : Jvm.MethodName)) ∈ TB := tb 506 (by decide +kernel) (by decide +kernel)
theorem wd508 : (Jvm.Cond.instanceMethod ({ cls := "TelegramFeelings$Changes", name := "dropFirst", desc := "()V" } : Jvm.MethodName)) ∈ TB := tb 508 (by decide +kernel) (by decide +kernel)
theorem wd509 : (Jvm.Cond.code ({ cls := "TelegramFeelings$Changes", name := "dropFirst", desc := "()V" } : Jvm.MethodName) prog_3_method_3_code (1 : Nat) (Option.none : Option Jvm.ClassFile.FieldType)) ∈ TB := tb 509 (by decide +kernel) (by decide +kernel)
theorem wd510 : (Jvm.Cond.methodLink "TelegramFeelings$Changes" (38 : Nat) ({ cls := "java/lang/System", name := "arraycopy", desc := "(Ljava/lang/Object;ILjava/lang/Object;II)V" } : Jvm.MethodName)) ∈ TB := tb 510 (by decide +kernel) (by decide +kernel)
theorem wd511 : (Jvm.Cond.static ({ cls := "java/lang/System", name := "arraycopy", desc := "(Ljava/lang/Object;ILjava/lang/Object;II)V" } : Jvm.MethodName)) ∈ TB := tb 511 (by decide +kernel) (by decide +kernel)
theorem wd512 : (Jvm.Cond.native ({ cls := "java/lang/System", name := "arraycopy", desc := "(Ljava/lang/Object;ILjava/lang/Object;II)V" } : Jvm.MethodName)) ∈ TB := tb 512 (by decide +kernel) (by decide +kernel)
theorem wd513 : (Jvm.Cond.methodLink "TelegramFeelingsLaw" (32 : Nat) ({ cls := "TelegramFeelings", name := "of", desc := "(II)I" } : Jvm.MethodName)) ∈ TB := tb 513 (by decide +kernel) (by decide +kernel)
theorem wd514 : (Jvm.Cond.instanceMethod ({ cls := "TelegramFeelings", name := "of", desc := "(II)I" } : Jvm.MethodName)) ∈ TB := tb 514 (by decide +kernel) (by decide +kernel)
theorem wd515 : (Jvm.Cond.selects "TelegramFeelings" ({ cls := "TelegramFeelings", name := "of", desc := "(II)I" } : Jvm.MethodName) ({ cls := "TelegramFeelings", name := "of", desc := "(II)I" } : Jvm.MethodName)) ∈ TB := tb 515 (by decide +kernel) (by decide +kernel)
theorem wd516 : (Jvm.Cond.code ({ cls := "TelegramFeelings", name := "of", desc := "(II)I" } : Jvm.MethodName) prog_1_method_7_code (3 : Nat) (Option.some Jvm.ClassFile.FieldType.int)) ∈ TB := tb 516 (by decide +kernel) (by decide +kernel)
theorem wd517 : (Jvm.Cond.methodLink "TelegramFeelingsLaw" (36 : Nat) ({ cls := "TelegramFeelings", name := "feed", desc := "(I)I" } : Jvm.MethodName)) ∈ TB := tb 517 (by decide +kernel) (by decide +kernel)
theorem wd518 : (Jvm.Cond.instanceMethod ({ cls := "TelegramFeelings", name := "feed", desc := "(I)I" } : Jvm.MethodName)) ∈ TB := tb 518 (by decide +kernel) (by decide +kernel)
theorem wd519 : (Jvm.Cond.selects "TelegramFeelings" ({ cls := "TelegramFeelings", name := "feed", desc := "(I)I" } : Jvm.MethodName) ({ cls := "TelegramFeelings", name := "feed", desc := "(I)I" } : Jvm.MethodName)) ∈ TB := tb 519 (by decide +kernel) (by decide +kernel)
theorem wd520 : (Jvm.Cond.code ({ cls := "TelegramFeelings", name := "feed", desc := "(I)I" } : Jvm.MethodName) prog_1_method_8_code (2 : Nat) (Option.some Jvm.ClassFile.FieldType.int)) ∈ TB := tb 520 (by decide +kernel) (by decide +kernel)
theorem wd521 : (Jvm.Cond.methodLink "TelegramFeelings" (122 : Nat) ({ cls := "TelegramFeelings$Law", name := "feedOne", desc := "(I)I" } : Jvm.MethodName)) ∈ TB := tb 521 (by decide +kernel) (by decide +kernel)
theorem wd522 : (Jvm.Cond.instanceMethod ({ cls := "TelegramFeelings$Law", name := "feedOne", desc := "(I)I" } : Jvm.MethodName)) ∈ TB := tb 522 (by decide +kernel) (by decide +kernel)
theorem wd523 : (Jvm.Cond.selects "TelegramFeelings$Law" ({ cls := "TelegramFeelings$Law", name := "feedOne", desc := "(I)I" } : Jvm.MethodName) ({ cls := "TelegramFeelings$Law", name := "feedOne", desc := "(I)I" } : Jvm.MethodName)) ∈ TB := tb 523 (by decide +kernel) (by decide +kernel)
theorem wd524 : (Jvm.Cond.code ({ cls := "TelegramFeelings$Law", name := "feedOne", desc := "(I)I" } : Jvm.MethodName) prog_6_method_2_code (2 : Nat) (Option.some Jvm.ClassFile.FieldType.int)) ∈ TB := tb 524 (by decide +kernel) (by decide +kernel)
theorem wd525 : (Jvm.Cond.methodLink "TelegramFeelingsLaw" (40 : Nat) ({ cls := "TelegramFeelings", name := "law", desc := "()I" } : Jvm.MethodName)) ∈ TB := tb 525 (by decide +kernel) (by decide +kernel)
theorem wd526 : (Jvm.Cond.instanceMethod ({ cls := "TelegramFeelings", name := "law", desc := "()I" } : Jvm.MethodName)) ∈ TB := tb 526 (by decide +kernel) (by decide +kernel)
theorem wd527 : (Jvm.Cond.selects "TelegramFeelings" ({ cls := "TelegramFeelings", name := "law", desc := "()I" } : Jvm.MethodName) ({ cls := "TelegramFeelings", name := "law", desc := "()I" } : Jvm.MethodName)) ∈ TB := tb 527 (by decide +kernel) (by decide +kernel)
theorem wd528 : (Jvm.Cond.code ({ cls := "TelegramFeelings", name := "law", desc := "()I" } : Jvm.MethodName) prog_1_method_9_code (1 : Nat) (Option.some Jvm.ClassFile.FieldType.int)) ∈ TB := tb 528 (by decide +kernel) (by decide +kernel)
theorem wd529 : (Jvm.Cond.methodLink "TelegramFeelings" (125 : Nat) ({ cls := "TelegramFeelings$Law", name := "adopt", desc := "()I" } : Jvm.MethodName)) ∈ TB := tb 529 (by decide +kernel) (by decide +kernel)
theorem wd530 : (Jvm.Cond.instanceMethod ({ cls := "TelegramFeelings$Law", name := "adopt", desc := "()I" } : Jvm.MethodName)) ∈ TB := tb 530 (by decide +kernel) (by decide +kernel)
theorem wd531 : (Jvm.Cond.selects "TelegramFeelings$Law" ({ cls := "TelegramFeelings$Law", name := "adopt", desc := "()I" } : Jvm.MethodName) ({ cls := "TelegramFeelings$Law", name := "adopt", desc := "()I" } : Jvm.MethodName)) ∈ TB := tb 531 (by decide +kernel) (by decide +kernel)
theorem wd532 : (Jvm.Cond.code ({ cls := "TelegramFeelings$Law", name := "adopt", desc := "()I" } : Jvm.MethodName) prog_6_method_3_code (4 : Nat) (Option.some Jvm.ClassFile.FieldType.int)) ∈ TB := tb 532 (by decide +kernel) (by decide +kernel)
theorem wd533 : (Jvm.Cond.methodLink "TelegramFeelings$Law" (43 : Nat) ({ cls := "TelegramFeelings$Law", name := "readText", desc := "()Z" } : Jvm.MethodName)) ∈ TB := tb 533 (by decide +kernel) (by decide +kernel)
theorem wd535 : (Jvm.Cond.instanceMethod ({ cls := "TelegramFeelings$Law", name := "readText", desc := "()Z" } : Jvm.MethodName)) ∈ TB := tb 535 (by decide +kernel) (by decide +kernel)
theorem wd536 : (Jvm.Cond.code ({ cls := "TelegramFeelings$Law", name := "readText", desc := "()Z" } : Jvm.MethodName) prog_6_method_4_code (2 : Nat) (Option.some Jvm.ClassFile.FieldType.boolean)) ∈ TB := tb 536 (by decide +kernel) (by decide +kernel)
theorem wd537 : (Jvm.Cond.methodLink "TelegramFeelings$Law" (61 : Nat) ({ cls := "TelegramFeelings$Law", name := "readLine", desc := "()Z" } : Jvm.MethodName)) ∈ TB := tb 537 (by decide +kernel) (by decide +kernel)
theorem wd539 : (Jvm.Cond.instanceMethod ({ cls := "TelegramFeelings$Law", name := "readLine", desc := "()Z" } : Jvm.MethodName)) ∈ TB := tb 539 (by decide +kernel) (by decide +kernel)
theorem wd540 : (Jvm.Cond.code ({ cls := "TelegramFeelings$Law", name := "readLine", desc := "()Z" } : Jvm.MethodName) prog_6_method_5_code (1 : Nat) (Option.some Jvm.ClassFile.FieldType.boolean)) ∈ TB := tb 540 (by decide +kernel) (by decide +kernel)
theorem wd541 : (Jvm.Cond.methodLink "TelegramFeelings$Law" (68 : Nat) ({ cls := "TelegramFeelings$Law", name := "readEither", desc := "(I)Z" } : Jvm.MethodName)) ∈ TB := tb 541 (by decide +kernel) (by decide +kernel)
theorem wd543 : (Jvm.Cond.instanceMethod ({ cls := "TelegramFeelings$Law", name := "readEither", desc := "(I)Z" } : Jvm.MethodName)) ∈ TB := tb 543 (by decide +kernel) (by decide +kernel)
theorem wd544 : (Jvm.Cond.code ({ cls := "TelegramFeelings$Law", name := "readEither", desc := "(I)Z" } : Jvm.MethodName) prog_6_method_6_code (4 : Nat) (Option.some Jvm.ClassFile.FieldType.boolean)) ∈ TB := tb 544 (by decide +kernel) (by decide +kernel)
theorem wd545 : (Jvm.Cond.methodLink "TelegramFeelings$Law" (75 : Nat) ({ cls := "TelegramFeelings$Law", name := "readBoth", desc := "(I)Z" } : Jvm.MethodName)) ∈ TB := tb 545 (by decide +kernel) (by decide +kernel)
theorem wd547 : (Jvm.Cond.instanceMethod ({ cls := "TelegramFeelings$Law", name := "readBoth", desc := "(I)Z" } : Jvm.MethodName)) ∈ TB := tb 547 (by decide +kernel) (by decide +kernel)
theorem wd548 : (Jvm.Cond.code ({ cls := "TelegramFeelings$Law", name := "readBoth", desc := "(I)Z" } : Jvm.MethodName) prog_6_method_7_code (4 : Nat) (Option.some Jvm.ClassFile.FieldType.boolean)) ∈ TB := tb 548 (by decide +kernel) (by decide +kernel)
theorem wd549 : (Jvm.Cond.methodLink "TelegramFeelings$Law" (78 : Nat) ({ cls := "TelegramFeelings$Law", name := "readCompared", desc := "(I)Z" } : Jvm.MethodName)) ∈ TB := tb 549 (by decide +kernel) (by decide +kernel)
theorem wd551 : (Jvm.Cond.instanceMethod ({ cls := "TelegramFeelings$Law", name := "readCompared", desc := "(I)Z" } : Jvm.MethodName)) ∈ TB := tb 551 (by decide +kernel) (by decide +kernel)
theorem wd552 : (Jvm.Cond.code ({ cls := "TelegramFeelings$Law", name := "readCompared", desc := "(I)Z" } : Jvm.MethodName) prog_6_method_8_code (4 : Nat) (Option.some Jvm.ClassFile.FieldType.boolean)) ∈ TB := tb 552 (by decide +kernel) (by decide +kernel)
theorem wd553 : (Jvm.Cond.methodLink "TelegramFeelings$Law" (81 : Nat) ({ cls := "TelegramFeelings$Law", name := "readSum", desc := "(I)Z" } : Jvm.MethodName)) ∈ TB := tb 553 (by decide +kernel) (by decide +kernel)
theorem wd555 : (Jvm.Cond.instanceMethod ({ cls := "TelegramFeelings$Law", name := "readSum", desc := "(I)Z" } : Jvm.MethodName)) ∈ TB := tb 555 (by decide +kernel) (by decide +kernel)
theorem wd556 : (Jvm.Cond.code ({ cls := "TelegramFeelings$Law", name := "readSum", desc := "(I)Z" } : Jvm.MethodName) prog_6_method_9_code (5 : Nat) (Option.some Jvm.ClassFile.FieldType.boolean)) ∈ TB := tb 556 (by decide +kernel) (by decide +kernel)
theorem wd557 : (Jvm.Cond.methodLink "TelegramFeelings$Law" (87 : Nat) ({ cls := "TelegramFeelings$Law", name := "readProduct", desc := "(I)Z" } : Jvm.MethodName)) ∈ TB := tb 557 (by decide +kernel) (by decide +kernel)
theorem wd559 : (Jvm.Cond.instanceMethod ({ cls := "TelegramFeelings$Law", name := "readProduct", desc := "(I)Z" } : Jvm.MethodName)) ∈ TB := tb 559 (by decide +kernel) (by decide +kernel)
theorem wd560 : (Jvm.Cond.code ({ cls := "TelegramFeelings$Law", name := "readProduct", desc := "(I)Z" } : Jvm.MethodName) prog_6_method_10_code (5 : Nat) (Option.some Jvm.ClassFile.FieldType.boolean)) ∈ TB := tb 560 (by decide +kernel) (by decide +kernel)
theorem wd561 : (Jvm.Cond.methodLink "TelegramFeelings$Law" (90 : Nat) ({ cls := "TelegramFeelings$Law", name := "readOperand", desc := "(I)Z" } : Jvm.MethodName)) ∈ TB := tb 561 (by decide +kernel) (by decide +kernel)
theorem wd563 : (Jvm.Cond.instanceMethod ({ cls := "TelegramFeelings$Law", name := "readOperand", desc := "(I)Z" } : Jvm.MethodName)) ∈ TB := tb 563 (by decide +kernel) (by decide +kernel)
theorem wd564 : (Jvm.Cond.code ({ cls := "TelegramFeelings$Law", name := "readOperand", desc := "(I)Z" } : Jvm.MethodName) prog_6_method_11_code (5 : Nat) (Option.some Jvm.ClassFile.FieldType.boolean)) ∈ TB := tb 564 (by decide +kernel) (by decide +kernel)
theorem wd565 : (Jvm.Cond.methodLink "TelegramFeelings$Law" (84 : Nat) ({ cls := "TelegramFeelings$Law", name := "next", desc := "()I" } : Jvm.MethodName)) ∈ TB := tb 565 (by decide +kernel) (by decide +kernel)
theorem wd567 : (Jvm.Cond.instanceMethod ({ cls := "TelegramFeelings$Law", name := "next", desc := "()I" } : Jvm.MethodName)) ∈ TB := tb 567 (by decide +kernel) (by decide +kernel)
theorem wd568 : (Jvm.Cond.code ({ cls := "TelegramFeelings$Law", name := "next", desc := "()I" } : Jvm.MethodName) prog_6_method_14_code (1 : Nat) (Option.some Jvm.ClassFile.FieldType.int)) ∈ TB := tb 568 (by decide +kernel) (by decide +kernel)
theorem wd569 : (Jvm.Cond.methodLink "TelegramFeelings$Law" (93 : Nat) ({ cls := "TelegramFeelings$Law", name := "isDigit", desc := "(I)Z" } : Jvm.MethodName)) ∈ TB := tb 569 (by decide +kernel) (by decide +kernel)
theorem wd570 : (Jvm.Cond.static ({ cls := "TelegramFeelings$Law", name := "isDigit", desc := "(I)Z" } : Jvm.MethodName)) ∈ TB := tb 570 (by decide +kernel) (by decide +kernel)
theorem wd571 : (Jvm.Cond.code ({ cls := "TelegramFeelings$Law", name := "isDigit", desc := "(I)Z" } : Jvm.MethodName) prog_6_method_13_code (1 : Nat) (Option.some Jvm.ClassFile.FieldType.boolean)) ∈ TB := tb 571 (by decide +kernel) (by decide +kernel)
theorem wd572 : (Jvm.Cond.methodLink "TelegramFeelings$Law" (96 : Nat) ({ cls := "TelegramFeelings$Law", name := "readNumber", desc := "()V" } : Jvm.MethodName)) ∈ TB := tb 572 (by decide +kernel) (by decide +kernel)
theorem wd574 : (Jvm.Cond.instanceMethod ({ cls := "TelegramFeelings$Law", name := "readNumber", desc := "()V" } : Jvm.MethodName)) ∈ TB := tb 574 (by decide +kernel) (by decide +kernel)
theorem wd575 : (Jvm.Cond.code ({ cls := "TelegramFeelings$Law", name := "readNumber", desc := "()V" } : Jvm.MethodName) prog_6_method_12_code (3 : Nat) (Option.none : Option Jvm.ClassFile.FieldType)) ∈ TB := tb 575 (by decide +kernel) (by decide +kernel)
theorem wd576 : (Jvm.Cond.methodLink "TelegramFeelings$Law" (71 : Nat) ({ cls := "TelegramFeelings$Law", name := "emit", desc := "(I)V" } : Jvm.MethodName)) ∈ TB := tb 576 (by decide +kernel) (by decide +kernel)
theorem wd578 : (Jvm.Cond.instanceMethod ({ cls := "TelegramFeelings$Law", name := "emit", desc := "(I)V" } : Jvm.MethodName)) ∈ TB := tb 578 (by decide +kernel) (by decide +kernel)
theorem wd579 : (Jvm.Cond.code ({ cls := "TelegramFeelings$Law", name := "emit", desc := "(I)V" } : Jvm.MethodName) prog_6_method_16_code (2 : Nat) (Option.none : Option Jvm.ClassFile.FieldType)) ∈ TB := tb 579 (by decide +kernel) (by decide +kernel)
theorem wd580 : (Jvm.Cond.methodLink "TelegramFeelings$Law" (99 : Nat) ({ cls := "java/lang/String", name := "indexOf", desc := "(I)I" } : Jvm.MethodName)) ∈ TB := tb 580 (by decide +kernel) (by decide +kernel)
theorem wd581 : (Jvm.Cond.instanceMethod ({ cls := "java/lang/String", name := "indexOf", desc := "(I)I" } : Jvm.MethodName)) ∈ TB := tb 581 (by decide +kernel) (by decide +kernel)
theorem wd582 : (Jvm.Cond.selects "java/lang/String" ({ cls := "java/lang/String", name := "indexOf", desc := "(I)I" } : Jvm.MethodName) ({ cls := "java/lang/String", name := "indexOf", desc := "(I)I" } : Jvm.MethodName)) ∈ TB := tb 582 (by decide +kernel) (by decide +kernel)
theorem wd583 : (Jvm.Cond.code ({ cls := "java/lang/String", name := "indexOf", desc := "(I)I" } : Jvm.MethodName) prog_16_method_79_code (2 : Nat) (Option.some Jvm.ClassFile.FieldType.int)) ∈ TB := tb 583 (by decide +kernel) (by decide +kernel)
theorem wd584 : (Jvm.Cond.methodLink "java/lang/String" (633 : Nat) ({ cls := "java/lang/String", name := "indexOf", desc := "(II)I" } : Jvm.MethodName)) ∈ TB := tb 584 (by decide +kernel) (by decide +kernel)
theorem wd585 : (Jvm.Cond.instanceMethod ({ cls := "java/lang/String", name := "indexOf", desc := "(II)I" } : Jvm.MethodName)) ∈ TB := tb 585 (by decide +kernel) (by decide +kernel)
theorem wd586 : (Jvm.Cond.selects "java/lang/String" ({ cls := "java/lang/String", name := "indexOf", desc := "(II)I" } : Jvm.MethodName) ({ cls := "java/lang/String", name := "indexOf", desc := "(II)I" } : Jvm.MethodName)) ∈ TB := tb 586 (by decide +kernel) (by decide +kernel)
theorem wd587 : (Jvm.Cond.code ({ cls := "java/lang/String", name := "indexOf", desc := "(II)I" } : Jvm.MethodName) prog_16_method_80_code (3 : Nat) (Option.some Jvm.ClassFile.FieldType.int)) ∈ TB := tb 587 (by decide +kernel) (by decide +kernel)
theorem wd588 : (Jvm.Cond.methodLink "java/lang/String" (492 : Nat) ({ cls := "java/lang/String", name := "isLatin1", desc := "()Z" } : Jvm.MethodName)) ∈ TB := tb 588 (by decide +kernel) (by decide +kernel)
theorem wd589 : (Jvm.Cond.instanceMethod ({ cls := "java/lang/String", name := "isLatin1", desc := "()Z" } : Jvm.MethodName)) ∈ TB := tb 589 (by decide +kernel) (by decide +kernel)
theorem wd590 : (Jvm.Cond.selects "java/lang/String" ({ cls := "java/lang/String", name := "isLatin1", desc := "()Z" } : Jvm.MethodName) ({ cls := "java/lang/String", name := "isLatin1", desc := "()Z" } : Jvm.MethodName)) ∈ TB := tb 590 (by decide +kernel) (by decide +kernel)
theorem wd591 : (Jvm.Cond.code ({ cls := "java/lang/String", name := "isLatin1", desc := "()Z" } : Jvm.MethodName) prog_16_method_154_code (1 : Nat) (Option.some Jvm.ClassFile.FieldType.boolean)) ∈ TB := tb 591 (by decide +kernel) (by decide +kernel)
theorem wd592 : (Jvm.Cond.methodLink "java/lang/String" (505 : Nat) ({ cls := "java/lang/String", name := "length", desc := "()I" } : Jvm.MethodName)) ∈ TB := tb 592 (by decide +kernel) (by decide +kernel)
theorem wd593 : (Jvm.Cond.methodLink "java/lang/String" (637 : Nat) ({ cls := "java/lang/StringLatin1", name := "indexOf", desc := "([BIII)I" } : Jvm.MethodName)) ∈ TB := tb 593 (by decide +kernel) (by decide +kernel)
theorem wd594 : (Jvm.Cond.static ({ cls := "java/lang/StringLatin1", name := "indexOf", desc := "([BIII)I" } : Jvm.MethodName)) ∈ TB := tb 594 (by decide +kernel) (by decide +kernel)
theorem wd595 : (Jvm.Cond.code ({ cls := "java/lang/StringLatin1", name := "indexOf", desc := "([BIII)I" } : Jvm.MethodName) prog_17_method_22_code (4 : Nat) (Option.some Jvm.ClassFile.FieldType.int)) ∈ TB := tb 595 (by decide +kernel) (by decide +kernel)
theorem wd596 : (Jvm.Cond.methodLink "java/lang/StringLatin1" (88 : Nat) ({ cls := "java/lang/StringLatin1", name := "canEncode", desc := "(I)Z" } : Jvm.MethodName)) ∈ TB := tb 596 (by decide +kernel) (by decide +kernel)
theorem wd597 : (Jvm.Cond.static ({ cls := "java/lang/StringLatin1", name := "canEncode", desc := "(I)Z" } : Jvm.MethodName)) ∈ TB := tb 597 (by decide +kernel) (by decide +kernel)
theorem wd598 : (Jvm.Cond.code ({ cls := "java/lang/StringLatin1", name := "canEncode", desc := "(I)Z" } : Jvm.MethodName) prog_17_method_4_code (1 : Nat) (Option.some Jvm.ClassFile.FieldType.boolean)) ∈ TB := tb 598 (by decide +kernel) (by decide +kernel)
theorem wd599 : (Jvm.Cond.methodLink "java/lang/StringLatin1" (92 : Nat) ({ cls := "java/lang/Math", name := "max", desc := "(II)I" } : Jvm.MethodName)) ∈ TB := tb 599 (by decide +kernel) (by decide +kernel)
theorem wd600 : (Jvm.Cond.static ({ cls := "java/lang/Math", name := "max", desc := "(II)I" } : Jvm.MethodName)) ∈ TB := tb 600 (by decide +kernel) (by decide +kernel)
theorem wd601 : (Jvm.Cond.code ({ cls := "java/lang/Math", name := "max", desc := "(II)I" } : Jvm.MethodName) prog_15_method_65_code (2 : Nat) (Option.some Jvm.ClassFile.FieldType.int)) ∈ TB := tb 601 (by decide +kernel) (by decide +kernel)
theorem wd602 : (Jvm.Cond.methodLink "java/lang/StringLatin1" (38 : Nat) ({ cls := "java/lang/Math", name := "min", desc := "(II)I" } : Jvm.MethodName)) ∈ TB := tb 602 (by decide +kernel) (by decide +kernel)
theorem wd603 : (Jvm.Cond.static ({ cls := "java/lang/Math", name := "min", desc := "(II)I" } : Jvm.MethodName)) ∈ TB := tb 603 (by decide +kernel) (by decide +kernel)
theorem wd604 : (Jvm.Cond.code ({ cls := "java/lang/Math", name := "min", desc := "(II)I" } : Jvm.MethodName) prog_15_method_69_code (2 : Nat) (Option.some Jvm.ClassFile.FieldType.int)) ∈ TB := tb 604 (by decide +kernel) (by decide +kernel)
theorem wd605 : (Jvm.Cond.methodLink "java/lang/StringLatin1" (95 : Nat) ({ cls := "java/lang/StringLatin1", name := "indexOfChar", desc := "([BIII)I" } : Jvm.MethodName)) ∈ TB := tb 605 (by decide +kernel) (by decide +kernel)
theorem wd606 : (Jvm.Cond.static ({ cls := "java/lang/StringLatin1", name := "indexOfChar", desc := "([BIII)I" } : Jvm.MethodName)) ∈ TB := tb 606 (by decide +kernel) (by decide +kernel)
theorem wd607 : (Jvm.Cond.code ({ cls := "java/lang/StringLatin1", name := "indexOfChar", desc := "([BIII)I" } : Jvm.MethodName) prog_17_method_23_code (6 : Nat) (Option.some Jvm.ClassFile.FieldType.int)) ∈ TB := tb 607 (by decide +kernel) (by decide +kernel)
theorem wd608 : (Jvm.Cond.methodLink "java/lang/String" (640 : Nat) ({ cls := "java/lang/StringUTF16", name := "indexOf", desc := "([BIII)I" } : Jvm.MethodName)) ∈ TB := tb 608 (by decide +kernel) (by decide +kernel)
theorem wd624 : (Jvm.Cond.static ({ cls := "java/lang/String", name := "checkBoundsBeginEnd", desc := "(III)V" } : Jvm.MethodName)) ∈ TB := tb 624 (by decide +kernel) (by decide +kernel)
theorem wd625 : (Jvm.Cond.code ({ cls := "java/lang/String", name := "checkBoundsBeginEnd", desc := "(III)V" } : Jvm.MethodName) prog_16_method_158_code (3 : Nat) (Option.none : Option Jvm.ClassFile.FieldType)) ∈ TB := tb 625 (by decide +kernel) (by decide +kernel)
theorem wd626 : (Jvm.Cond.fieldLink "java/lang/String" (1053 : Nat) "jdk/internal/util/Preconditions" "SIOOBE_FORMATTER" "Ljava/util/function/BiFunction;") ∈ TB := tb 626 (by decide +kernel) (by decide +kernel)
theorem wd628 : (Jvm.Cond.methodLink "java/lang/String" (1062 : Nat) ({ cls := "jdk/internal/util/Preconditions", name := "checkFromToIndex", desc := "(IIILjava/util/function/BiFunction;)I" } : Jvm.MethodName)) ∈ TB := tb 628 (by decide +kernel) (by decide +kernel)
theorem wd657 : (Jvm.Cond.methodLink "TelegramFeelings$Law" (64 : Nat) ({ cls := "TelegramFeelings$Law", name := "takes", desc := "(I)Z" } : Jvm.MethodName)) ∈ TB := tb 657 (by decide +kernel) (by decide +kernel)
theorem wd659 : (Jvm.Cond.instanceMethod ({ cls := "TelegramFeelings$Law", name := "takes", desc := "(I)Z" } : Jvm.MethodName)) ∈ TB := tb 659 (by decide +kernel) (by decide +kernel)
theorem wd660 : (Jvm.Cond.code ({ cls := "TelegramFeelings$Law", name := "takes", desc := "(I)Z" } : Jvm.MethodName) prog_6_method_15_code (2 : Nat) (Option.some Jvm.ClassFile.FieldType.boolean)) ∈ TB := tb 660 (by decide +kernel) (by decide +kernel)
theorem wd661 : (Jvm.Cond.methodLink "TelegramFeelingsLaw" (45 : Nat) ({ cls := "TelegramFeelings", name := "price", desc := "(II)I" } : Jvm.MethodName)) ∈ TB := tb 661 (by decide +kernel) (by decide +kernel)
theorem wd662 : (Jvm.Cond.instanceMethod ({ cls := "TelegramFeelings", name := "price", desc := "(II)I" } : Jvm.MethodName)) ∈ TB := tb 662 (by decide +kernel) (by decide +kernel)
theorem wd663 : (Jvm.Cond.selects "TelegramFeelings" ({ cls := "TelegramFeelings", name := "price", desc := "(II)I" } : Jvm.MethodName) ({ cls := "TelegramFeelings", name := "price", desc := "(II)I" } : Jvm.MethodName)) ∈ TB := tb 663 (by decide +kernel) (by decide +kernel)
theorem wd664 : (Jvm.Cond.code ({ cls := "TelegramFeelings", name := "price", desc := "(II)I" } : Jvm.MethodName) prog_1_method_10_code (5 : Nat) (Option.some Jvm.ClassFile.FieldType.int)) ∈ TB := tb 664 (by decide +kernel) (by decide +kernel)
theorem wd665 : (Jvm.Cond.methodLink "TelegramFeelings" (129 : Nat) ({ cls := "TelegramFeelings$Law", name := "priceOf", desc := "(III)I" } : Jvm.MethodName)) ∈ TB := tb 665 (by decide +kernel) (by decide +kernel)
theorem wd666 : (Jvm.Cond.instanceMethod ({ cls := "TelegramFeelings$Law", name := "priceOf", desc := "(III)I" } : Jvm.MethodName)) ∈ TB := tb 666 (by decide +kernel) (by decide +kernel)
theorem wd667 : (Jvm.Cond.selects "TelegramFeelings$Law" ({ cls := "TelegramFeelings$Law", name := "priceOf", desc := "(III)I" } : Jvm.MethodName) ({ cls := "TelegramFeelings$Law", name := "priceOf", desc := "(III)I" } : Jvm.MethodName)) ∈ TB := tb 667 (by decide +kernel) (by decide +kernel)
theorem wd668 : (Jvm.Cond.code ({ cls := "TelegramFeelings$Law", name := "priceOf", desc := "(III)I" } : Jvm.MethodName) prog_6_method_17_code (6 : Nat) (Option.some Jvm.ClassFile.FieldType.int)) ∈ TB := tb 668 (by decide +kernel) (by decide +kernel)
theorem wd669 : (Jvm.Cond.methodLink "TelegramFeelings$Law" (103 : Nat) ({ cls := "TelegramFeelings$Office", name := "value", desc := "(II)I" } : Jvm.MethodName)) ∈ TB := tb 669 (by decide +kernel) (by decide +kernel)
theorem wd670 : (Jvm.Cond.methodLink "TelegramFeelings$Law" (107 : Nat) ({ cls := "TelegramFeelings$Law", name := "worked", desc := "()I" } : Jvm.MethodName)) ∈ TB := tb 670 (by decide +kernel) (by decide +kernel)
theorem wd672 : (Jvm.Cond.instanceMethod ({ cls := "TelegramFeelings$Law", name := "worked", desc := "()I" } : Jvm.MethodName)) ∈ TB := tb 672 (by decide +kernel) (by decide +kernel)
theorem wd673 : (Jvm.Cond.code ({ cls := "TelegramFeelings$Law", name := "worked", desc := "()I" } : Jvm.MethodName) prog_6_method_18_code (5 : Nat) (Option.some Jvm.ClassFile.FieldType.int)) ∈ TB := tb 673 (by decide +kernel) (by decide +kernel)
theorem wd674 : (Jvm.Cond.methodLink "TelegramFeelings$Law" (121 : Nat) ({ cls := "TelegramFeelings$Law", name := "push", desc := "(I)V" } : Jvm.MethodName)) ∈ TB := tb 674 (by decide +kernel) (by decide +kernel)
theorem wd676 : (Jvm.Cond.instanceMethod ({ cls := "TelegramFeelings$Law", name := "push", desc := "(I)V" } : Jvm.MethodName)) ∈ TB := tb 676 (by decide +kernel) (by decide +kernel)
theorem wd677 : (Jvm.Cond.code ({ cls := "TelegramFeelings$Law", name := "push", desc := "(I)V" } : Jvm.MethodName) prog_6_method_20_code (2 : Nat) (Option.none : Option Jvm.ClassFile.FieldType)) ∈ TB := tb 677 (by decide +kernel) (by decide +kernel)
theorem wd678 : (Jvm.Cond.methodLink "TelegramFeelings$Law" (124 : Nat) ({ cls := "TelegramFeelings$Law", name := "pop", desc := "()I" } : Jvm.MethodName)) ∈ TB := tb 678 (by decide +kernel) (by decide +kernel)
theorem wd680 : (Jvm.Cond.instanceMethod ({ cls := "TelegramFeelings$Law", name := "pop", desc := "()I" } : Jvm.MethodName)) ∈ TB := tb 680 (by decide +kernel) (by decide +kernel)
theorem wd681 : (Jvm.Cond.code ({ cls := "TelegramFeelings$Law", name := "pop", desc := "()I" } : Jvm.MethodName) prog_6_method_21_code (1 : Nat) (Option.some Jvm.ClassFile.FieldType.int)) ∈ TB := tb 681 (by decide +kernel) (by decide +kernel)
theorem wd682 : (Jvm.Cond.methodLink "TelegramFeelings$Law" (127 : Nat) ({ cls := "TelegramFeelings$Law", name := "workedOut", desc := "(III)I" } : Jvm.MethodName)) ∈ TB := tb 682 (by decide +kernel) (by decide +kernel)
theorem wd683 : (Jvm.Cond.static ({ cls := "TelegramFeelings$Law", name := "workedOut", desc := "(III)I" } : Jvm.MethodName)) ∈ TB := tb 683 (by decide +kernel) (by decide +kernel)
theorem wd684 : (Jvm.Cond.code ({ cls := "TelegramFeelings$Law", name := "workedOut", desc := "(III)I" } : Jvm.MethodName) prog_6_method_19_code (3 : Nat) (Option.some Jvm.ClassFile.FieldType.int)) ∈ TB := tb 684 (by decide +kernel) (by decide +kernel)
theorem wd685 : (Jvm.Cond.methodLink "TelegramFeelings$Law" (110 : Nat) ({ cls := "java/lang/Math", name := "min", desc := "(II)I" } : Jvm.MethodName)) ∈ TB := tb 685 (by decide +kernel) (by decide +kernel)
theorem wd686 : (Jvm.Cond.methodLink "TelegramFeelings$Law" (115 : Nat) ({ cls := "java/lang/Math", name := "max", desc := "(II)I" } : Jvm.MethodName)) ∈ TB := tb 686 (by decide +kernel) (by decide +kernel)
theorem wd687 : (Jvm.Cond.methodLink "TelegramFeelingsLaw" (49 : Nat) ({ cls := "TelegramFeelings", name := "wire", desc := "(II)I" } : Jvm.MethodName)) ∈ TB := tb 687 (by decide +kernel) (by decide +kernel)
theorem wd688 : (Jvm.Cond.instanceMethod ({ cls := "TelegramFeelings", name := "wire", desc := "(II)I" } : Jvm.MethodName)) ∈ TB := tb 688 (by decide +kernel) (by decide +kernel)
theorem wd689 : (Jvm.Cond.selects "TelegramFeelings" ({ cls := "TelegramFeelings", name := "wire", desc := "(II)I" } : Jvm.MethodName) ({ cls := "TelegramFeelings", name := "wire", desc := "(II)I" } : Jvm.MethodName)) ∈ TB := tb 689 (by decide +kernel) (by decide +kernel)
theorem wd690 : (Jvm.Cond.code ({ cls := "TelegramFeelings", name := "wire", desc := "(II)I" } : Jvm.MethodName) prog_1_method_11_code (4 : Nat) (Option.some Jvm.ClassFile.FieldType.int)) ∈ TB := tb 690 (by decide +kernel) (by decide +kernel)
theorem wd691 : (Jvm.Cond.methodLink "TelegramFeelings" (132 : Nat) ({ cls := "TelegramFeelings", name := "opened", desc := "(I)I" } : Jvm.MethodName)) ∈ TB := tb 691 (by decide +kernel) (by decide +kernel)
theorem wd693 : (Jvm.Cond.instanceMethod ({ cls := "TelegramFeelings", name := "opened", desc := "(I)I" } : Jvm.MethodName)) ∈ TB := tb 693 (by decide +kernel) (by decide +kernel)
theorem wd694 : (Jvm.Cond.code ({ cls := "TelegramFeelings", name := "opened", desc := "(I)I" } : Jvm.MethodName) prog_1_method_12_code (3 : Nat) (Option.some Jvm.ClassFile.FieldType.int)) ∈ TB := tb 694 (by decide +kernel) (by decide +kernel)
theorem wd695 : (Jvm.Cond.methodLink "TelegramFeelings" (155 : Nat) ({ cls := "TelegramFeelings$Telegram", name := "read", desc := "(LTelegramFeelings$Shelves;I)V" } : Jvm.MethodName)) ∈ TB := tb 695 (by decide +kernel) (by decide +kernel)
theorem wd696 : (Jvm.Cond.instanceMethod ({ cls := "TelegramFeelings$Telegram", name := "read", desc := "(LTelegramFeelings$Shelves;I)V" } : Jvm.MethodName)) ∈ TB := tb 696 (by decide +kernel) (by decide +kernel)
theorem wd697 : (Jvm.Cond.selects "TelegramFeelings$Telegram" ({ cls := "TelegramFeelings$Telegram", name := "read", desc := "(LTelegramFeelings$Shelves;I)V" } : Jvm.MethodName) ({ cls := "TelegramFeelings$Telegram", name := "read", desc := "(LTelegramFeelings$Shelves;I)V" } : Jvm.MethodName)) ∈ TB := tb 697 (by decide +kernel) (by decide +kernel)
theorem wd698 : (Jvm.Cond.code ({ cls := "TelegramFeelings$Telegram", name := "read", desc := "(LTelegramFeelings$Shelves;I)V" } : Jvm.MethodName) prog_10_method_2_code (6 : Nat) (Option.none : Option Jvm.ClassFile.FieldType)) ∈ TB := tb 698 (by decide +kernel) (by decide +kernel)
theorem wd699 : (Jvm.Cond.methodLink "TelegramFeelings$Telegram" (33 : Nat) ({ cls := "TelegramFeelings$Shelves", name := "sizeOf", desc := "(I)I" } : Jvm.MethodName)) ∈ TB := tb 699 (by decide +kernel) (by decide +kernel)
theorem wd700 : (Jvm.Cond.methodLink "TelegramFeelings$Telegram" (39 : Nat) ({ cls := "java/lang/Math", name := "min", desc := "(II)I" } : Jvm.MethodName)) ∈ TB := tb 700 (by decide +kernel) (by decide +kernel)
theorem wd701 : (Jvm.Cond.methodLink "TelegramFeelings$Telegram" (45 : Nat) ({ cls := "TelegramFeelings$Shelves", name := "at", desc := "(II)J" } : Jvm.MethodName)) ∈ TB := tb 701 (by decide +kernel) (by decide +kernel)
theorem wd702 : (Jvm.Cond.methodLink "TelegramFeelings$Telegram" (49 : Nat) ({ cls := "TelegramFeelings$Office", name := "has", desc := "(II)Z" } : Jvm.MethodName)) ∈ TB := tb 702 (by decide +kernel) (by decide +kernel)
theorem wd703 : (Jvm.Cond.methodLink "TelegramFeelings" (135 : Nat) ({ cls := "TelegramFeelings$Telegram", name := "costs", desc := "()I" } : Jvm.MethodName)) ∈ TB := tb 703 (by decide +kernel) (by decide +kernel)
theorem wd704 : (Jvm.Cond.instanceMethod ({ cls := "TelegramFeelings$Telegram", name := "costs", desc := "()I" } : Jvm.MethodName)) ∈ TB := tb 704 (by decide +kernel) (by decide +kernel)
theorem wd705 : (Jvm.Cond.selects "TelegramFeelings$Telegram" ({ cls := "TelegramFeelings$Telegram", name := "costs", desc := "()I" } : Jvm.MethodName) ({ cls := "TelegramFeelings$Telegram", name := "costs", desc := "()I" } : Jvm.MethodName)) ∈ TB := tb 705 (by decide +kernel) (by decide +kernel)
theorem wd706 : (Jvm.Cond.code ({ cls := "TelegramFeelings$Telegram", name := "costs", desc := "()I" } : Jvm.MethodName) prog_10_method_4_code (4 : Nat) (Option.some Jvm.ClassFile.FieldType.int)) ∈ TB := tb 706 (by decide +kernel) (by decide +kernel)
theorem wd707 : (Jvm.Cond.methodLink "TelegramFeelings$Telegram" (55 : Nat) ({ cls := "TelegramFeelings$Law", name := "priceOf", desc := "(III)I" } : Jvm.MethodName)) ∈ TB := tb 707 (by decide +kernel) (by decide +kernel)
theorem wd708 : (Jvm.Cond.methodLink "TelegramFeelings$Telegram" (61 : Nat) ({ cls := "TelegramFeelings$Office", name := "value", desc := "(II)I" } : Jvm.MethodName)) ∈ TB := tb 708 (by decide +kernel) (by decide +kernel)
theorem wd709 : (Jvm.Cond.methodLink "TelegramFeelings" (138 : Nat) ({ cls := "TelegramFeelings$Telegram", name := "senseOf", desc := "()I" } : Jvm.MethodName)) ∈ TB := tb 709 (by decide +kernel) (by decide +kernel)
theorem wd710 : (Jvm.Cond.instanceMethod ({ cls := "TelegramFeelings$Telegram", name := "senseOf", desc := "()I" } : Jvm.MethodName)) ∈ TB := tb 710 (by decide +kernel) (by decide +kernel)
theorem wd711 : (Jvm.Cond.selects "TelegramFeelings$Telegram" ({ cls := "TelegramFeelings$Telegram", name := "senseOf", desc := "()I" } : Jvm.MethodName) ({ cls := "TelegramFeelings$Telegram", name := "senseOf", desc := "()I" } : Jvm.MethodName)) ∈ TB := tb 711 (by decide +kernel) (by decide +kernel)
theorem wd712 : (Jvm.Cond.code ({ cls := "TelegramFeelings$Telegram", name := "senseOf", desc := "()I" } : Jvm.MethodName) prog_10_method_5_code (1 : Nat) (Option.some Jvm.ClassFile.FieldType.int)) ∈ TB := tb 712 (by decide +kernel) (by decide +kernel)
theorem wd713 : (Jvm.Cond.methodLink "TelegramFeelings$Telegram" (64 : Nat) ({ cls := "TelegramFeelings$Telegram", name := "senseOfFirst", desc := "(I)I" } : Jvm.MethodName)) ∈ TB := tb 713 (by decide +kernel) (by decide +kernel)
theorem wd714 : (Jvm.Cond.instanceMethod ({ cls := "TelegramFeelings$Telegram", name := "senseOfFirst", desc := "(I)I" } : Jvm.MethodName)) ∈ TB := tb 714 (by decide +kernel) (by decide +kernel)
theorem wd715 : (Jvm.Cond.selects "TelegramFeelings$Telegram" ({ cls := "TelegramFeelings$Telegram", name := "senseOfFirst", desc := "(I)I" } : Jvm.MethodName) ({ cls := "TelegramFeelings$Telegram", name := "senseOfFirst", desc := "(I)I" } : Jvm.MethodName)) ∈ TB := tb 715 (by decide +kernel) (by decide +kernel)
theorem wd716 : (Jvm.Cond.code ({ cls := "TelegramFeelings$Telegram", name := "senseOfFirst", desc := "(I)I" } : Jvm.MethodName) prog_10_method_6_code (4 : Nat) (Option.some Jvm.ClassFile.FieldType.int)) ∈ TB := tb 716 (by decide +kernel) (by decide +kernel)
theorem wd717 : (Jvm.Cond.methodLink "TelegramFeelings" (141 : Nat) ({ cls := "TelegramFeelings$Telegram", name := "isRight", desc := "()Z" } : Jvm.MethodName)) ∈ TB := tb 717 (by decide +kernel) (by decide +kernel)
theorem wd718 : (Jvm.Cond.instanceMethod ({ cls := "TelegramFeelings$Telegram", name := "isRight", desc := "()Z" } : Jvm.MethodName)) ∈ TB := tb 718 (by decide +kernel) (by decide +kernel)
theorem wd719 : (Jvm.Cond.selects "TelegramFeelings$Telegram" ({ cls := "TelegramFeelings$Telegram", name := "isRight", desc := "()Z" } : Jvm.MethodName) ({ cls := "TelegramFeelings$Telegram", name := "isRight", desc := "()Z" } : Jvm.MethodName)) ∈ TB := tb 719 (by decide +kernel) (by decide +kernel)
theorem wd720 : (Jvm.Cond.code ({ cls := "TelegramFeelings$Telegram", name := "isRight", desc := "()Z" } : Jvm.MethodName) prog_10_method_7_code (4 : Nat) (Option.some Jvm.ClassFile.FieldType.boolean)) ∈ TB := tb 720 (by decide +kernel) (by decide +kernel)
theorem wd721 : (Jvm.Cond.methodLink "TelegramFeelings$Telegram" (67 : Nat) ({ cls := "TelegramFeelings$Telegram", name := "follows", desc := "(II)Z" } : Jvm.MethodName)) ∈ TB := tb 721 (by decide +kernel) (by decide +kernel)
theorem wd722 : (Jvm.Cond.static ({ cls := "TelegramFeelings$Telegram", name := "follows", desc := "(II)Z" } : Jvm.MethodName)) ∈ TB := tb 722 (by decide +kernel) (by decide +kernel)
theorem wd723 : (Jvm.Cond.code ({ cls := "TelegramFeelings$Telegram", name := "follows", desc := "(II)Z" } : Jvm.MethodName) prog_10_method_8_code (2 : Nat) (Option.some Jvm.ClassFile.FieldType.boolean)) ∈ TB := tb 723 (by decide +kernel) (by decide +kernel)
theorem wd724 : (Jvm.Cond.methodLink "TelegramFeelings$Telegram" (70 : Nat) ({ cls := "TelegramFeelings$Telegram", name := "mayEnd", desc := "(I)Z" } : Jvm.MethodName)) ∈ TB := tb 724 (by decide +kernel) (by decide +kernel)
theorem wd725 : (Jvm.Cond.static ({ cls := "TelegramFeelings$Telegram", name := "mayEnd", desc := "(I)Z" } : Jvm.MethodName)) ∈ TB := tb 725 (by decide +kernel) (by decide +kernel)
theorem wd726 : (Jvm.Cond.code ({ cls := "TelegramFeelings$Telegram", name := "mayEnd", desc := "(I)Z" } : Jvm.MethodName) prog_10_method_9_code (1 : Nat) (Option.some Jvm.ClassFile.FieldType.boolean)) ∈ TB := tb 726 (by decide +kernel) (by decide +kernel)
theorem wd727 : (Jvm.Cond.methodLink "TelegramFeelings" (149 : Nat) ({ cls := "TelegramFeelings$Telegram", name := "joinedPrice", desc := "()I" } : Jvm.MethodName)) ∈ TB := tb 727 (by decide +kernel) (by decide +kernel)
theorem wd728 : (Jvm.Cond.instanceMethod ({ cls := "TelegramFeelings$Telegram", name := "joinedPrice", desc := "()I" } : Jvm.MethodName)) ∈ TB := tb 728 (by decide +kernel) (by decide +kernel)
theorem wd729 : (Jvm.Cond.selects "TelegramFeelings$Telegram" ({ cls := "TelegramFeelings$Telegram", name := "joinedPrice", desc := "()I" } : Jvm.MethodName) ({ cls := "TelegramFeelings$Telegram", name := "joinedPrice", desc := "()I" } : Jvm.MethodName)) ∈ TB := tb 729 (by decide +kernel) (by decide +kernel)
theorem wd730 : (Jvm.Cond.code ({ cls := "TelegramFeelings$Telegram", name := "joinedPrice", desc := "()I" } : Jvm.MethodName) prog_10_method_10_code (1 : Nat) (Option.some Jvm.ClassFile.FieldType.int)) ∈ TB := tb 730 (by decide +kernel) (by decide +kernel)
theorem wd731 : (Jvm.Cond.methodLink "TelegramFeelings$Telegram" (74 : Nat) ({ cls := "TelegramFeelings$Telegram", name := "joined", desc := "()I" } : Jvm.MethodName)) ∈ TB := tb 731 (by decide +kernel) (by decide +kernel)
theorem wd733 : (Jvm.Cond.instanceMethod ({ cls := "TelegramFeelings$Telegram", name := "joined", desc := "()I" } : Jvm.MethodName)) ∈ TB := tb 733 (by decide +kernel) (by decide +kernel)
theorem wd734 : (Jvm.Cond.code ({ cls := "TelegramFeelings$Telegram", name := "joined", desc := "()I" } : Jvm.MethodName) prog_10_method_12_code (7 : Nat) (Option.some Jvm.ClassFile.FieldType.int)) ∈ TB := tb 734 (by decide +kernel) (by decide +kernel)
theorem wd735 : (Jvm.Cond.methodLink "TelegramFeelings$Telegram" (78 : Nat) ({ cls := "TelegramFeelings$Telegram", name := "costs", desc := "()I" } : Jvm.MethodName)) ∈ TB := tb 735 (by decide +kernel) (by decide +kernel)
theorem wd736 : (Jvm.Cond.constant "TelegramFeelings$Telegram" (83 : Nat) (2147483647 : Int32)) ∈ TB := tb 736 (by decide +kernel) (by decide +kernel)
theorem wd737 : (Jvm.Cond.methodLink "TelegramFeelings$Telegram" (84 : Nat) ({ cls := "java/lang/Math", name := "max", desc := "(II)I" } : Jvm.MethodName)) ∈ TB := tb 737 (by decide +kernel) (by decide +kernel)
theorem wd738 : (Jvm.Cond.methodLink "TelegramFeelings" (152 : Nat) ({ cls := "TelegramFeelings$Telegram", name := "joinedRuns", desc := "()I" } : Jvm.MethodName)) ∈ TB := tb 738 (by decide +kernel) (by decide +kernel)
theorem wd739 : (Jvm.Cond.instanceMethod ({ cls := "TelegramFeelings$Telegram", name := "joinedRuns", desc := "()I" } : Jvm.MethodName)) ∈ TB := tb 739 (by decide +kernel) (by decide +kernel)
theorem wd740 : (Jvm.Cond.selects "TelegramFeelings$Telegram" ({ cls := "TelegramFeelings$Telegram", name := "joinedRuns", desc := "()I" } : Jvm.MethodName) ({ cls := "TelegramFeelings$Telegram", name := "joinedRuns", desc := "()I" } : Jvm.MethodName)) ∈ TB := tb 740 (by decide +kernel) (by decide +kernel)
theorem wd741 : (Jvm.Cond.code ({ cls := "TelegramFeelings$Telegram", name := "joinedRuns", desc := "()I" } : Jvm.MethodName) prog_10_method_11_code (1 : Nat) (Option.some Jvm.ClassFile.FieldType.int)) ∈ TB := tb 741 (by decide +kernel) (by decide +kernel)
theorem wd742 : (Jvm.Cond.methodLink "TelegramFeelingsLaw" (53 : Nat) ({ cls := "TelegramFeelings", name := "say", desc := "(II)I" } : Jvm.MethodName)) ∈ TB := tb 742 (by decide +kernel) (by decide +kernel)
theorem wd743 : (Jvm.Cond.instanceMethod ({ cls := "TelegramFeelings", name := "say", desc := "(II)I" } : Jvm.MethodName)) ∈ TB := tb 743 (by decide +kernel) (by decide +kernel)
theorem wd744 : (Jvm.Cond.selects "TelegramFeelings" ({ cls := "TelegramFeelings", name := "say", desc := "(II)I" } : Jvm.MethodName) ({ cls := "TelegramFeelings", name := "say", desc := "(II)I" } : Jvm.MethodName)) ∈ TB := tb 744 (by decide +kernel) (by decide +kernel)
theorem wd745 : (Jvm.Cond.code ({ cls := "TelegramFeelings", name := "say", desc := "(II)I" } : Jvm.MethodName) prog_1_method_13_code (6 : Nat) (Option.some Jvm.ClassFile.FieldType.int)) ∈ TB := tb 745 (by decide +kernel) (by decide +kernel)
theorem wd746 : (Jvm.Cond.methodLink "TelegramFeelings" (159 : Nat) ({ cls := "TelegramFeelings$Sayings", name := "cheapest", desc := "(II)J" } : Jvm.MethodName)) ∈ TB := tb 746 (by decide +kernel) (by decide +kernel)
theorem wd747 : (Jvm.Cond.instanceMethod ({ cls := "TelegramFeelings$Sayings", name := "cheapest", desc := "(II)J" } : Jvm.MethodName)) ∈ TB := tb 747 (by decide +kernel) (by decide +kernel)
theorem wd748 : (Jvm.Cond.selects "TelegramFeelings$Sayings" ({ cls := "TelegramFeelings$Sayings", name := "cheapest", desc := "(II)J" } : Jvm.MethodName) ({ cls := "TelegramFeelings$Sayings", name := "cheapest", desc := "(II)J" } : Jvm.MethodName)) ∈ TB := tb 748 (by decide +kernel) (by decide +kernel)
theorem wd749 : (Jvm.Cond.code ({ cls := "TelegramFeelings$Sayings", name := "cheapest", desc := "(II)J" } : Jvm.MethodName) prog_8_method_5_code (6 : Nat) (Option.some Jvm.ClassFile.FieldType.long)) ∈ TB := tb 749 (by decide +kernel) (by decide +kernel)
theorem wd750 : (Jvm.Cond.methodLink "TelegramFeelings$Sayings" (39 : Nat) ({ cls := "TelegramFeelings$Sayings", name := "refresh", desc := "()V" } : Jvm.MethodName)) ∈ TB := tb 750 (by decide +kernel) (by decide +kernel)
theorem wd752 : (Jvm.Cond.instanceMethod ({ cls := "TelegramFeelings$Sayings", name := "refresh", desc := "()V" } : Jvm.MethodName)) ∈ TB := tb 752 (by decide +kernel) (by decide +kernel)
theorem wd753 : (Jvm.Cond.code ({ cls := "TelegramFeelings$Sayings", name := "refresh", desc := "()V" } : Jvm.MethodName) prog_8_method_10_code (4 : Nat) (Option.none : Option Jvm.ClassFile.FieldType)) ∈ TB := tb 753 (by decide +kernel) (by decide +kernel)
theorem wd754 : (Jvm.Cond.constantLong "TelegramFeelings$Sayings" (42 : Nat) (-1 : Int64)) ∈ TB := tb 754 (by decide +kernel) (by decide +kernel)
theorem wd755 : (Jvm.Cond.methodLink "TelegramFeelings$Sayings" (69 : Nat) ({ cls := "java/util/Arrays", name := "fill", desc := "([JJ)V" } : Jvm.MethodName)) ∈ TB := tb 755 (by decide +kernel) (by decide +kernel)
theorem wd756 : (Jvm.Cond.static ({ cls := "java/util/Arrays", name := "fill", desc := "([JJ)V" } : Jvm.MethodName)) ∈ TB := tb 756 (by decide +kernel) (by decide +kernel)
theorem wd757 : (Jvm.Cond.code ({ cls := "java/util/Arrays", name := "fill", desc := "([JJ)V" } : Jvm.MethodName) prog_20_method_101_code (5 : Nat) (Option.none : Option Jvm.ClassFile.FieldType)) ∈ TB := tb 757 (by decide +kernel) (by decide +kernel)
theorem wd758 : (Jvm.Cond.methodLink "TelegramFeelings$Sayings" (78 : Nat) ({ cls := "TelegramFeelings$Sayings", name := "lengthen", desc := "(III)V" } : Jvm.MethodName)) ∈ TB := tb 758 (by decide +kernel) (by decide +kernel)
theorem wd760 : (Jvm.Cond.instanceMethod ({ cls := "TelegramFeelings$Sayings", name := "lengthen", desc := "(III)V" } : Jvm.MethodName)) ∈ TB := tb 760 (by decide +kernel) (by decide +kernel)
theorem wd761 : (Jvm.Cond.code ({ cls := "TelegramFeelings$Sayings", name := "lengthen", desc := "(III)V" } : Jvm.MethodName) prog_8_method_11_code (13 : Nat) (Option.none : Option Jvm.ClassFile.FieldType)) ∈ TB := tb 761 (by decide +kernel) (by decide +kernel)
theorem wd762 : (Jvm.Cond.methodLink "TelegramFeelings$Sayings" (86 : Nat) ({ cls := "TelegramFeelings$Office", name := "value", desc := "(II)I" } : Jvm.MethodName)) ∈ TB := tb 762 (by decide +kernel) (by decide +kernel)
theorem wd763 : (Jvm.Cond.methodLink "TelegramFeelings$Sayings" (90 : Nat) ({ cls := "TelegramFeelings$Telegram", name := "follows", desc := "(II)Z" } : Jvm.MethodName)) ∈ TB := tb 763 (by decide +kernel) (by decide +kernel)
theorem wd764 : (Jvm.Cond.methodLink "TelegramFeelings$Sayings" (95 : Nat) ({ cls := "TelegramFeelings$Law", name := "priceOf", desc := "(III)I" } : Jvm.MethodName)) ∈ TB := tb 764 (by decide +kernel) (by decide +kernel)
theorem wd765 : (Jvm.Cond.constantLong "TelegramFeelings$Sayings" (101 : Nat) (16777215 : Int64)) ∈ TB := tb 765 (by decide +kernel) (by decide +kernel)
theorem wd766 : (Jvm.Cond.methodLink "TelegramFeelings$Sayings" (44 : Nat) ({ cls := "TelegramFeelings$Sayings", name := "firstOf", desc := "(JJ)J" } : Jvm.MethodName)) ∈ TB := tb 766 (by decide +kernel) (by decide +kernel)
theorem wd767 : (Jvm.Cond.static ({ cls := "TelegramFeelings$Sayings", name := "firstOf", desc := "(JJ)J" } : Jvm.MethodName)) ∈ TB := tb 767 (by decide +kernel) (by decide +kernel)
theorem wd768 : (Jvm.Cond.code ({ cls := "TelegramFeelings$Sayings", name := "firstOf", desc := "(JJ)J" } : Jvm.MethodName) prog_8_method_9_code (4 : Nat) (Option.some Jvm.ClassFile.FieldType.long)) ∈ TB := tb 768 (by decide +kernel) (by decide +kernel)
theorem wd769 : (Jvm.Cond.methodLink "TelegramFeelings$Sayings" (61 : Nat) ({ cls := "java/lang/Math", name := "min", desc := "(JJ)J" } : Jvm.MethodName)) ∈ TB := tb 769 (by decide +kernel) (by decide +kernel)
theorem wd770 : (Jvm.Cond.static ({ cls := "java/lang/Math", name := "min", desc := "(JJ)J" } : Jvm.MethodName)) ∈ TB := tb 770 (by decide +kernel) (by decide +kernel)
theorem wd771 : (Jvm.Cond.code ({ cls := "java/lang/Math", name := "min", desc := "(JJ)J" } : Jvm.MethodName) prog_15_method_70_code (4 : Nat) (Option.some Jvm.ClassFile.FieldType.long)) ∈ TB := tb 771 (by decide +kernel) (by decide +kernel)
theorem wd772 : (Jvm.Cond.methodLink "TelegramFeelings$Sayings" (82 : Nat) ({ cls := "TelegramFeelings$Sayings", name := "settle", desc := "(I)V" } : Jvm.MethodName)) ∈ TB := tb 772 (by decide +kernel) (by decide +kernel)
theorem wd774 : (Jvm.Cond.instanceMethod ({ cls := "TelegramFeelings$Sayings", name := "settle", desc := "(I)V" } : Jvm.MethodName)) ∈ TB := tb 774 (by decide +kernel) (by decide +kernel)
theorem wd775 : (Jvm.Cond.code ({ cls := "TelegramFeelings$Sayings", name := "settle", desc := "(I)V" } : Jvm.MethodName) prog_8_method_12_code (6 : Nat) (Option.none : Option Jvm.ClassFile.FieldType)) ∈ TB := tb 775 (by decide +kernel) (by decide +kernel)
theorem wd776 : (Jvm.Cond.methodLink "TelegramFeelings$Sayings" (103 : Nat) ({ cls := "TelegramFeelings$Telegram", name := "mayEnd", desc := "(I)Z" } : Jvm.MethodName)) ∈ TB := tb 776 (by decide +kernel) (by decide +kernel)
theorem wd777 : (Jvm.Cond.methodLink "TelegramFeelings" (162 : Nat) ({ cls := "TelegramFeelings$Sayings", name := "priceIn", desc := "(J)I" } : Jvm.MethodName)) ∈ TB := tb 777 (by decide +kernel) (by decide +kernel)
theorem wd778 : (Jvm.Cond.static ({ cls := "TelegramFeelings$Sayings", name := "priceIn", desc := "(J)I" } : Jvm.MethodName)) ∈ TB := tb 778 (by decide +kernel) (by decide +kernel)
theorem wd779 : (Jvm.Cond.code ({ cls := "TelegramFeelings$Sayings", name := "priceIn", desc := "(J)I" } : Jvm.MethodName) prog_8_method_2_code (2 : Nat) (Option.some Jvm.ClassFile.FieldType.int)) ∈ TB := tb 779 (by decide +kernel) (by decide +kernel)
theorem wd780 : (Jvm.Cond.methodLink "TelegramFeelings" (166 : Nat) ({ cls := "TelegramFeelings$Sayings", name := "manyIn", desc := "(J)I" } : Jvm.MethodName)) ∈ TB := tb 780 (by decide +kernel) (by decide +kernel)
theorem wd781 : (Jvm.Cond.static ({ cls := "TelegramFeelings$Sayings", name := "manyIn", desc := "(J)I" } : Jvm.MethodName)) ∈ TB := tb 781 (by decide +kernel) (by decide +kernel)
theorem wd782 : (Jvm.Cond.code ({ cls := "TelegramFeelings$Sayings", name := "manyIn", desc := "(J)I" } : Jvm.MethodName) prog_8_method_3_code (2 : Nat) (Option.some Jvm.ClassFile.FieldType.int)) ∈ TB := tb 782 (by decide +kernel) (by decide +kernel)
theorem wd783 : (Jvm.Cond.constantLong "TelegramFeelings$Sayings" (33 : Nat) (15 : Int64)) ∈ TB := tb 783 (by decide +kernel) (by decide +kernel)
theorem wd784 : (Jvm.Cond.methodLink "TelegramFeelings" (169 : Nat) ({ cls := "TelegramFeelings$Sayings", name := "wordIn", desc := "(JI)I" } : Jvm.MethodName)) ∈ TB := tb 784 (by decide +kernel) (by decide +kernel)
theorem wd785 : (Jvm.Cond.static ({ cls := "TelegramFeelings$Sayings", name := "wordIn", desc := "(JI)I" } : Jvm.MethodName)) ∈ TB := tb 785 (by decide +kernel) (by decide +kernel)
theorem wd786 : (Jvm.Cond.code ({ cls := "TelegramFeelings$Sayings", name := "wordIn", desc := "(JI)I" } : Jvm.MethodName) prog_8_method_4_code (3 : Nat) (Option.some Jvm.ClassFile.FieldType.int)) ∈ TB := tb 786 (by decide +kernel) (by decide +kernel)
theorem wd787 : (Jvm.Cond.methodLink "TelegramFeelings$Sayings" (35 : Nat) ({ cls := "TelegramFeelings$Sayings", name := "manyIn", desc := "(J)I" } : Jvm.MethodName)) ∈ TB := tb 787 (by decide +kernel) (by decide +kernel)
theorem wd788 : (Jvm.Cond.methodLink "TelegramFeelingsLaw" (57 : Nat) ({ cls := "TelegramFeelings", name := "allFor", desc := "(II)I" } : Jvm.MethodName)) ∈ TB := tb 788 (by decide +kernel) (by decide +kernel)
theorem wd789 : (Jvm.Cond.instanceMethod ({ cls := "TelegramFeelings", name := "allFor", desc := "(II)I" } : Jvm.MethodName)) ∈ TB := tb 789 (by decide +kernel) (by decide +kernel)
theorem wd790 : (Jvm.Cond.selects "TelegramFeelings" ({ cls := "TelegramFeelings", name := "allFor", desc := "(II)I" } : Jvm.MethodName) ({ cls := "TelegramFeelings", name := "allFor", desc := "(II)I" } : Jvm.MethodName)) ∈ TB := tb 790 (by decide +kernel) (by decide +kernel)
theorem wd791 : (Jvm.Cond.code ({ cls := "TelegramFeelings", name := "allFor", desc := "(II)I" } : Jvm.MethodName) prog_1_method_14_code (4 : Nat) (Option.some Jvm.ClassFile.FieldType.int)) ∈ TB := tb 791 (by decide +kernel) (by decide +kernel)
theorem wd792 : (Jvm.Cond.methodLink "TelegramFeelings" (173 : Nat) ({ cls := "TelegramFeelings$Sayings", name := "widest", desc := "(I)I" } : Jvm.MethodName)) ∈ TB := tb 792 (by decide +kernel) (by decide +kernel)
theorem wd793 : (Jvm.Cond.instanceMethod ({ cls := "TelegramFeelings$Sayings", name := "widest", desc := "(I)I" } : Jvm.MethodName)) ∈ TB := tb 793 (by decide +kernel) (by decide +kernel)
theorem wd794 : (Jvm.Cond.selects "TelegramFeelings$Sayings" ({ cls := "TelegramFeelings$Sayings", name := "widest", desc := "(I)I" } : Jvm.MethodName) ({ cls := "TelegramFeelings$Sayings", name := "widest", desc := "(I)I" } : Jvm.MethodName)) ∈ TB := tb 794 (by decide +kernel) (by decide +kernel)
theorem wd795 : (Jvm.Cond.code ({ cls := "TelegramFeelings$Sayings", name := "widest", desc := "(I)I" } : Jvm.MethodName) prog_8_method_6_code (4 : Nat) (Option.some Jvm.ClassFile.FieldType.int)) ∈ TB := tb 795 (by decide +kernel) (by decide +kernel)
theorem wd796 : (Jvm.Cond.methodLink "TelegramFeelings$Sayings" (48 : Nat) ({ cls := "TelegramFeelings$Sayings", name := "isFor", desc := "(II)Z" } : Jvm.MethodName)) ∈ TB := tb 796 (by decide +kernel) (by decide +kernel)
theorem wd798 : (Jvm.Cond.instanceMethod ({ cls := "TelegramFeelings$Sayings", name := "isFor", desc := "(II)Z" } : Jvm.MethodName)) ∈ TB := tb 798 (by decide +kernel) (by decide +kernel)
theorem wd799 : (Jvm.Cond.code ({ cls := "TelegramFeelings$Sayings", name := "isFor", desc := "(II)Z" } : Jvm.MethodName) prog_8_method_8_code (3 : Nat) (Option.some Jvm.ClassFile.FieldType.boolean)) ∈ TB := tb 799 (by decide +kernel) (by decide +kernel)
theorem wd800 : (Jvm.Cond.methodLink "TelegramFeelings$Sayings" (58 : Nat) ({ cls := "TelegramFeelings$Sayings", name := "priceIn", desc := "(J)I" } : Jvm.MethodName)) ∈ TB := tb 800 (by decide +kernel) (by decide +kernel)
theorem wd801 : (Jvm.Cond.methodLink "TelegramFeelings$Sayings" (52 : Nat) ({ cls := "java/lang/Integer", name := "bitCount", desc := "(I)I" } : Jvm.MethodName)) ∈ TB := tb 801 (by decide +kernel) (by decide +kernel)
theorem wd802 : (Jvm.Cond.static ({ cls := "java/lang/Integer", name := "bitCount", desc := "(I)I" } : Jvm.MethodName)) ∈ TB := tb 802 (by decide +kernel) (by decide +kernel)
theorem wd803 : (Jvm.Cond.code ({ cls := "java/lang/Integer", name := "bitCount", desc := "(I)I" } : Jvm.MethodName) prog_14_method_49_code (1 : Nat) (Option.some Jvm.ClassFile.FieldType.int)) ∈ TB := tb 803 (by decide +kernel) (by decide +kernel)
theorem wd804 : (Jvm.Cond.constant "java/lang/Integer" (265 : Nat) (1431655765 : Int32)) ∈ TB := tb 804 (by decide +kernel) (by decide +kernel)
theorem wd805 : (Jvm.Cond.constant "java/lang/Integer" (266 : Nat) (858993459 : Int32)) ∈ TB := tb 805 (by decide +kernel) (by decide +kernel)
theorem wd806 : (Jvm.Cond.constant "java/lang/Integer" (267 : Nat) (252645135 : Int32)) ∈ TB := tb 806 (by decide +kernel) (by decide +kernel)
theorem wd807 : (Jvm.Cond.methodLink "TelegramFeelings" (176 : Nat) ({ cls := "java/lang/Integer", name := "bitCount", desc := "(I)I" } : Jvm.MethodName)) ∈ TB := tb 807 (by decide +kernel) (by decide +kernel)
theorem wd808 : (Jvm.Cond.methodLink "TelegramFeelingsLaw" (61 : Nat) ({ cls := "TelegramFeelings", name := "tooDear", desc := "(I)I" } : Jvm.MethodName)) ∈ TB := tb 808 (by decide +kernel) (by decide +kernel)
theorem wd809 : (Jvm.Cond.instanceMethod ({ cls := "TelegramFeelings", name := "tooDear", desc := "(I)I" } : Jvm.MethodName)) ∈ TB := tb 809 (by decide +kernel) (by decide +kernel)
theorem wd810 : (Jvm.Cond.selects "TelegramFeelings" ({ cls := "TelegramFeelings", name := "tooDear", desc := "(I)I" } : Jvm.MethodName) ({ cls := "TelegramFeelings", name := "tooDear", desc := "(I)I" } : Jvm.MethodName)) ∈ TB := tb 810 (by decide +kernel) (by decide +kernel)
theorem wd811 : (Jvm.Cond.code ({ cls := "TelegramFeelings", name := "tooDear", desc := "(I)I" } : Jvm.MethodName) prog_1_method_15_code (2 : Nat) (Option.some Jvm.ClassFile.FieldType.int)) ∈ TB := tb 811 (by decide +kernel) (by decide +kernel)
theorem wd812 : (Jvm.Cond.methodLink "TelegramFeelings" (181 : Nat) ({ cls := "TelegramFeelings$Sayings", name := "within", desc := "(I)I" } : Jvm.MethodName)) ∈ TB := tb 812 (by decide +kernel) (by decide +kernel)
theorem wd813 : (Jvm.Cond.instanceMethod ({ cls := "TelegramFeelings$Sayings", name := "within", desc := "(I)I" } : Jvm.MethodName)) ∈ TB := tb 813 (by decide +kernel) (by decide +kernel)
theorem wd814 : (Jvm.Cond.selects "TelegramFeelings$Sayings" ({ cls := "TelegramFeelings$Sayings", name := "within", desc := "(I)I" } : Jvm.MethodName) ({ cls := "TelegramFeelings$Sayings", name := "within", desc := "(I)I" } : Jvm.MethodName)) ∈ TB := tb 814 (by decide +kernel) (by decide +kernel)
theorem wd815 : (Jvm.Cond.code ({ cls := "TelegramFeelings$Sayings", name := "within", desc := "(I)I" } : Jvm.MethodName) prog_8_method_7_code (4 : Nat) (Option.some Jvm.ClassFile.FieldType.int)) ∈ TB := tb 815 (by decide +kernel) (by decide +kernel)
theorem wd816 : (Jvm.Cond.methodLink "TelegramFeelingsLaw" (65 : Nat) ({ cls := "TelegramFeelings", name := "year", desc := "(III)I" } : Jvm.MethodName)) ∈ TB := tb 816 (by decide +kernel) (by decide +kernel)
theorem wd817 : (Jvm.Cond.instanceMethod ({ cls := "TelegramFeelings", name := "year", desc := "(III)I" } : Jvm.MethodName)) ∈ TB := tb 817 (by decide +kernel) (by decide +kernel)
theorem wd818 : (Jvm.Cond.selects "TelegramFeelings" ({ cls := "TelegramFeelings", name := "year", desc := "(III)I" } : Jvm.MethodName) ({ cls := "TelegramFeelings", name := "year", desc := "(III)I" } : Jvm.MethodName)) ∈ TB := tb 818 (by decide +kernel) (by decide +kernel)
theorem wd819 : (Jvm.Cond.code ({ cls := "TelegramFeelings", name := "year", desc := "(III)I" } : Jvm.MethodName) prog_1_method_16_code (6 : Nat) (Option.some Jvm.ClassFile.FieldType.int)) ∈ TB := tb 819 (by decide +kernel) (by decide +kernel)
theorem wd820 : (Jvm.Cond.methodLink "TelegramFeelings" (184 : Nat) ({ cls := "TelegramFeelings", name := "bestYear", desc := "(II)I" } : Jvm.MethodName)) ∈ TB := tb 820 (by decide +kernel) (by decide +kernel)
theorem wd822 : (Jvm.Cond.instanceMethod ({ cls := "TelegramFeelings", name := "bestYear", desc := "(II)I" } : Jvm.MethodName)) ∈ TB := tb 822 (by decide +kernel) (by decide +kernel)
theorem wd823 : (Jvm.Cond.code ({ cls := "TelegramFeelings", name := "bestYear", desc := "(II)I" } : Jvm.MethodName) prog_1_method_18_code (8 : Nat) (Option.some Jvm.ClassFile.FieldType.int)) ∈ TB := tb 823 (by decide +kernel) (by decide +kernel)
theorem wd824 : (Jvm.Cond.methodLink "TelegramFeelings" (190 : Nat) ({ cls := "TelegramFeelings", name := "offersOn", desc := "(I)I" } : Jvm.MethodName)) ∈ TB := tb 824 (by decide +kernel) (by decide +kernel)
theorem wd826 : (Jvm.Cond.instanceMethod ({ cls := "TelegramFeelings", name := "offersOn", desc := "(I)I" } : Jvm.MethodName)) ∈ TB := tb 826 (by decide +kernel) (by decide +kernel)
theorem wd827 : (Jvm.Cond.code ({ cls := "TelegramFeelings", name := "offersOn", desc := "(I)I" } : Jvm.MethodName) prog_1_method_17_code (4 : Nat) (Option.some Jvm.ClassFile.FieldType.int)) ∈ TB := tb 827 (by decide +kernel) (by decide +kernel)
theorem wd828 : (Jvm.Cond.methodLink "TelegramFeelings" (187 : Nat) ({ cls := "TelegramFeelings", name := "sumOf", desc := "(III)I" } : Jvm.MethodName)) ∈ TB := tb 828 (by decide +kernel) (by decide +kernel)
theorem wd830 : (Jvm.Cond.instanceMethod ({ cls := "TelegramFeelings", name := "sumOf", desc := "(III)I" } : Jvm.MethodName)) ∈ TB := tb 830 (by decide +kernel) (by decide +kernel)
theorem wd831 : (Jvm.Cond.code ({ cls := "TelegramFeelings", name := "sumOf", desc := "(III)I" } : Jvm.MethodName) prog_1_method_19_code (6 : Nat) (Option.some Jvm.ClassFile.FieldType.int)) ∈ TB := tb 831 (by decide +kernel) (by decide +kernel)
theorem wd832 : (Jvm.Cond.methodLink "TelegramFeelingsLaw" (69 : Nat) ({ cls := "TelegramFeelings", name := "came", desc := "(I)J" } : Jvm.MethodName)) ∈ TB := tb 832 (by decide +kernel) (by decide +kernel)
theorem wd833 : (Jvm.Cond.instanceMethod ({ cls := "TelegramFeelings", name := "came", desc := "(I)J" } : Jvm.MethodName)) ∈ TB := tb 833 (by decide +kernel) (by decide +kernel)
theorem wd834 : (Jvm.Cond.selects "TelegramFeelings" ({ cls := "TelegramFeelings", name := "came", desc := "(I)J" } : Jvm.MethodName) ({ cls := "TelegramFeelings", name := "came", desc := "(I)J" } : Jvm.MethodName)) ∈ TB := tb 834 (by decide +kernel) (by decide +kernel)
theorem wd835 : (Jvm.Cond.code ({ cls := "TelegramFeelings", name := "came", desc := "(I)J" } : Jvm.MethodName) prog_1_method_20_code (2 : Nat) (Option.some Jvm.ClassFile.FieldType.long)) ∈ TB := tb 835 (by decide +kernel) (by decide +kernel)
theorem wd836 : (Jvm.Cond.methodLink "TelegramFeelings" (193 : Nat) ({ cls := "TelegramFeelings$Hearing", name := "sum", desc := "(IZ)J" } : Jvm.MethodName)) ∈ TB := tb 836 (by decide +kernel) (by decide +kernel)
theorem wd837 : (Jvm.Cond.instanceMethod ({ cls := "TelegramFeelings$Hearing", name := "sum", desc := "(IZ)J" } : Jvm.MethodName)) ∈ TB := tb 837 (by decide +kernel) (by decide +kernel)
theorem wd838 : (Jvm.Cond.selects "TelegramFeelings$Hearing" ({ cls := "TelegramFeelings$Hearing", name := "sum", desc := "(IZ)J" } : Jvm.MethodName) ({ cls := "TelegramFeelings$Hearing", name := "sum", desc := "(IZ)J" } : Jvm.MethodName)) ∈ TB := tb 838 (by decide +kernel) (by decide +kernel)
theorem wd839 : (Jvm.Cond.code ({ cls := "TelegramFeelings$Hearing", name := "sum", desc := "(IZ)J" } : Jvm.MethodName) prog_5_method_6_code (6 : Nat) (Option.some Jvm.ClassFile.FieldType.long)) ∈ TB := tb 839 (by decide +kernel) (by decide +kernel)
theorem wd840 : (Jvm.Cond.methodLink "TelegramFeelings$Hearing" (56 : Nat) ({ cls := "TelegramFeelings$Hearing", name := "begin", desc := "()V" } : Jvm.MethodName)) ∈ TB := tb 840 (by decide +kernel) (by decide +kernel)
theorem wd842 : (Jvm.Cond.instanceMethod ({ cls := "TelegramFeelings$Hearing", name := "begin", desc := "()V" } : Jvm.MethodName)) ∈ TB := tb 842 (by decide +kernel) (by decide +kernel)
theorem wd843 : (Jvm.Cond.code ({ cls := "TelegramFeelings$Hearing", name := "begin", desc := "()V" } : Jvm.MethodName) prog_5_method_4_code (1 : Nat) (Option.none : Option Jvm.ClassFile.FieldType)) ∈ TB := tb 843 (by decide +kernel) (by decide +kernel)
theorem wd844 : (Jvm.Cond.methodLink "TelegramFeelings$Hearing" (50 : Nat) ({ cls := "java/util/Arrays", name := "fill", desc := "([JJ)V" } : Jvm.MethodName)) ∈ TB := tb 844 (by decide +kernel) (by decide +kernel)
theorem wd845 : (Jvm.Cond.methodLink "TelegramFeelings$Hearing" (59 : Nat) ({ cls := "TelegramFeelings$Hearing", name := "size", desc := "()I" } : Jvm.MethodName)) ∈ TB := tb 845 (by decide +kernel) (by decide +kernel)
theorem wd847 : (Jvm.Cond.instanceMethod ({ cls := "TelegramFeelings$Hearing", name := "size", desc := "()I" } : Jvm.MethodName)) ∈ TB := tb 847 (by decide +kernel) (by decide +kernel)
theorem wd848 : (Jvm.Cond.code ({ cls := "TelegramFeelings$Hearing", name := "size", desc := "()I" } : Jvm.MethodName) prog_5_method_2_code (1 : Nat) (Option.some Jvm.ClassFile.FieldType.int)) ∈ TB := tb 848 (by decide +kernel) (by decide +kernel)
theorem wd849 : (Jvm.Cond.methodLink "TelegramFeelings$Hearing" (39 : Nat) ({ cls := "java/lang/Math", name := "min", desc := "(II)I" } : Jvm.MethodName)) ∈ TB := tb 849 (by decide +kernel) (by decide +kernel)
theorem wd850 : (Jvm.Cond.methodLink "TelegramFeelings$Hearing" (65 : Nat) ({ cls := "TelegramFeelings$Telegram", name := "wordAt", desc := "(I)I" } : Jvm.MethodName)) ∈ TB := tb 850 (by decide +kernel) (by decide +kernel)
theorem wd851 : (Jvm.Cond.instanceMethod ({ cls := "TelegramFeelings$Telegram", name := "wordAt", desc := "(I)I" } : Jvm.MethodName)) ∈ TB := tb 851 (by decide +kernel) (by decide +kernel)
theorem wd852 : (Jvm.Cond.selects "TelegramFeelings$Telegram" ({ cls := "TelegramFeelings$Telegram", name := "wordAt", desc := "(I)I" } : Jvm.MethodName) ({ cls := "TelegramFeelings$Telegram", name := "wordAt", desc := "(I)I" } : Jvm.MethodName)) ∈ TB := tb 852 (by decide +kernel) (by decide +kernel)
theorem wd853 : (Jvm.Cond.code ({ cls := "TelegramFeelings$Telegram", name := "wordAt", desc := "(I)I" } : Jvm.MethodName) prog_10_method_3_code (2 : Nat) (Option.some Jvm.ClassFile.FieldType.int)) ∈ TB := tb 853 (by decide +kernel) (by decide +kernel)
theorem wd854 : (Jvm.Cond.methodLink "TelegramFeelings$Hearing" (69 : Nat) ({ cls := "TelegramFeelings$Hearing", name := "oddsOf", desc := "(II)I" } : Jvm.MethodName)) ∈ TB := tb 854 (by decide +kernel) (by decide +kernel)
theorem wd856 : (Jvm.Cond.instanceMethod ({ cls := "TelegramFeelings$Hearing", name := "oddsOf", desc := "(II)I" } : Jvm.MethodName)) ∈ TB := tb 856 (by decide +kernel) (by decide +kernel)
theorem wd857 : (Jvm.Cond.code ({ cls := "TelegramFeelings$Hearing", name := "oddsOf", desc := "(II)I" } : Jvm.MethodName) prog_5_method_3_code (4 : Nat) (Option.some Jvm.ClassFile.FieldType.int)) ∈ TB := tb 857 (by decide +kernel) (by decide +kernel)
theorem wd858 : (Jvm.Cond.methodLink "TelegramFeelings$Hearing" (45 : Nat) ({ cls := "TelegramFeelings$Office", name := "value", desc := "(II)I" } : Jvm.MethodName)) ∈ TB := tb 858 (by decide +kernel) (by decide +kernel)
theorem wd859 : (Jvm.Cond.methodLink "TelegramFeelings$Hearing" (72 : Nat) ({ cls := "TelegramFeelings$Hearing", name := "addWord", desc := "(II)V" } : Jvm.MethodName)) ∈ TB := tb 859 (by decide +kernel) (by decide +kernel)
theorem wd861 : (Jvm.Cond.instanceMethod ({ cls := "TelegramFeelings$Hearing", name := "addWord", desc := "(II)V" } : Jvm.MethodName)) ∈ TB := tb 861 (by decide +kernel) (by decide +kernel)
theorem wd862 : (Jvm.Cond.code ({ cls := "TelegramFeelings$Hearing", name := "addWord", desc := "(II)V" } : Jvm.MethodName) prog_5_method_7_code (5 : Nat) (Option.none : Option Jvm.ClassFile.FieldType)) ∈ TB := tb 862 (by decide +kernel) (by decide +kernel)
theorem wd863 : (Jvm.Cond.methodLink "TelegramFeelings$Hearing" (79 : Nat) ({ cls := "TelegramFeelings$Telegram", name := "follows", desc := "(II)Z" } : Jvm.MethodName)) ∈ TB := tb 863 (by decide +kernel) (by decide +kernel)
theorem wd864 : (Jvm.Cond.methodLink "TelegramFeelings$Hearing" (76 : Nat) ({ cls := "TelegramFeelings$Hearing", name := "swap", desc := "()V" } : Jvm.MethodName)) ∈ TB := tb 864 (by decide +kernel) (by decide +kernel)
theorem wd866 : (Jvm.Cond.instanceMethod ({ cls := "TelegramFeelings$Hearing", name := "swap", desc := "()V" } : Jvm.MethodName)) ∈ TB := tb 866 (by decide +kernel) (by decide +kernel)
theorem wd867 : (Jvm.Cond.code ({ cls := "TelegramFeelings$Hearing", name := "swap", desc := "()V" } : Jvm.MethodName) prog_5_method_5_code (3 : Nat) (Option.none : Option Jvm.ClassFile.FieldType)) ∈ TB := tb 867 (by decide +kernel) (by decide +kernel)
theorem wd868 : (Jvm.Cond.constantLong "TelegramFeelings" (199 : Nat) (-9223372036854775808 : Int64)) ∈ TB := tb 868 (by decide +kernel) (by decide +kernel)
theorem wd869 : (Jvm.Cond.methodLink "TelegramFeelingsLaw" (74 : Nat) ({ cls := "TelegramFeelings", name := "cameAs", desc := "(II)I" } : Jvm.MethodName)) ∈ TB := tb 869 (by decide +kernel) (by decide +kernel)
theorem wd870 : (Jvm.Cond.instanceMethod ({ cls := "TelegramFeelings", name := "cameAs", desc := "(II)I" } : Jvm.MethodName)) ∈ TB := tb 870 (by decide +kernel) (by decide +kernel)
theorem wd871 : (Jvm.Cond.selects "TelegramFeelings" ({ cls := "TelegramFeelings", name := "cameAs", desc := "(II)I" } : Jvm.MethodName) ({ cls := "TelegramFeelings", name := "cameAs", desc := "(II)I" } : Jvm.MethodName)) ∈ TB := tb 871 (by decide +kernel) (by decide +kernel)
theorem wd872 : (Jvm.Cond.code ({ cls := "TelegramFeelings", name := "cameAs", desc := "(II)I" } : Jvm.MethodName) prog_1_method_21_code (4 : Nat) (Option.some Jvm.ClassFile.FieldType.int)) ∈ TB := tb 872 (by decide +kernel) (by decide +kernel)
theorem wd873 : (Jvm.Cond.methodLink "TelegramFeelings" (201 : Nat) ({ cls := "TelegramFeelings$Hearing", name := "likeliest", desc := "(I)I" } : Jvm.MethodName)) ∈ TB := tb 873 (by decide +kernel) (by decide +kernel)
theorem wd874 : (Jvm.Cond.instanceMethod ({ cls := "TelegramFeelings$Hearing", name := "likeliest", desc := "(I)I" } : Jvm.MethodName)) ∈ TB := tb 874 (by decide +kernel) (by decide +kernel)
theorem wd875 : (Jvm.Cond.selects "TelegramFeelings$Hearing" ({ cls := "TelegramFeelings$Hearing", name := "likeliest", desc := "(I)I" } : Jvm.MethodName) ({ cls := "TelegramFeelings$Hearing", name := "likeliest", desc := "(I)I" } : Jvm.MethodName)) ∈ TB := tb 875 (by decide +kernel) (by decide +kernel)
theorem wd876 : (Jvm.Cond.code ({ cls := "TelegramFeelings$Hearing", name := "likeliest", desc := "(I)I" } : Jvm.MethodName) prog_5_method_8_code (4 : Nat) (Option.some Jvm.ClassFile.FieldType.int)) ∈ TB := tb 876 (by decide +kernel) (by decide +kernel)
theorem wd877 : (Jvm.Cond.methodLink "TelegramFeelings$Hearing" (83 : Nat) ({ cls := "TelegramFeelings$Hearing", name := "tryWord", desc := "(II)V" } : Jvm.MethodName)) ∈ TB := tb 877 (by decide +kernel) (by decide +kernel)
theorem wd879 : (Jvm.Cond.instanceMethod ({ cls := "TelegramFeelings$Hearing", name := "tryWord", desc := "(II)V" } : Jvm.MethodName)) ∈ TB := tb 879 (by decide +kernel) (by decide +kernel)
theorem wd880 : (Jvm.Cond.code ({ cls := "TelegramFeelings$Hearing", name := "tryWord", desc := "(II)V" } : Jvm.MethodName) prog_5_method_9_code (8 : Nat) (Option.none : Option Jvm.ClassFile.FieldType)) ∈ TB := tb 880 (by decide +kernel) (by decide +kernel)
theorem wd881 : (Jvm.Cond.methodLink "TelegramFeelings$Hearing" (86 : Nat) ({ cls := "TelegramFeelings$Hearing", name := "isAhead", desc := "(JIJI)Z" } : Jvm.MethodName)) ∈ TB := tb 881 (by decide +kernel) (by decide +kernel)
theorem wd882 : (Jvm.Cond.static ({ cls := "TelegramFeelings$Hearing", name := "isAhead", desc := "(JIJI)Z" } : Jvm.MethodName)) ∈ TB := tb 882 (by decide +kernel) (by decide +kernel)
theorem wd883 : (Jvm.Cond.code ({ cls := "TelegramFeelings$Hearing", name := "isAhead", desc := "(JIJI)Z" } : Jvm.MethodName) prog_5_method_10_code (6 : Nat) (Option.some Jvm.ClassFile.FieldType.boolean)) ∈ TB := tb 883 (by decide +kernel) (by decide +kernel)
theorem wd884 : (Jvm.Cond.methodLink "TelegramFeelingsLaw" (78 : Nat) ({ cls := "TelegramFeelings", name := "meant", desc := "(III)J" } : Jvm.MethodName)) ∈ TB := tb 884 (by decide +kernel) (by decide +kernel)
theorem wd885 : (Jvm.Cond.instanceMethod ({ cls := "TelegramFeelings", name := "meant", desc := "(III)J" } : Jvm.MethodName)) ∈ TB := tb 885 (by decide +kernel) (by decide +kernel)
theorem wd886 : (Jvm.Cond.selects "TelegramFeelings" ({ cls := "TelegramFeelings", name := "meant", desc := "(III)J" } : Jvm.MethodName) ({ cls := "TelegramFeelings", name := "meant", desc := "(III)J" } : Jvm.MethodName)) ∈ TB := tb 886 (by decide +kernel) (by decide +kernel)
theorem wd887 : (Jvm.Cond.code ({ cls := "TelegramFeelings", name := "meant", desc := "(III)J" } : Jvm.MethodName) prog_1_method_22_code (6 : Nat) (Option.some Jvm.ClassFile.FieldType.long)) ∈ TB := tb 887 (by decide +kernel) (by decide +kernel)
theorem wd888 : (Jvm.Cond.methodLink "TelegramFeelings" (204 : Nat) ({ cls := "TelegramFeelings", name := "inLowest", desc := "(JJI)J" } : Jvm.MethodName)) ∈ TB := tb 888 (by decide +kernel) (by decide +kernel)
theorem wd889 : (Jvm.Cond.static ({ cls := "TelegramFeelings", name := "inLowest", desc := "(JJI)J" } : Jvm.MethodName)) ∈ TB := tb 889 (by decide +kernel) (by decide +kernel)
theorem wd890 : (Jvm.Cond.code ({ cls := "TelegramFeelings", name := "inLowest", desc := "(JJI)J" } : Jvm.MethodName) prog_1_method_52_code (12 : Nat) (Option.some Jvm.ClassFile.FieldType.long)) ∈ TB := tb 890 (by decide +kernel) (by decide +kernel)
theorem wd891 : (Jvm.Cond.methodLink "TelegramFeelingsLaw" (83 : Nat) ({ cls := "TelegramFeelings", name := "certain", desc := "(I)I" } : Jvm.MethodName)) ∈ TB := tb 891 (by decide +kernel) (by decide +kernel)
theorem wd892 : (Jvm.Cond.instanceMethod ({ cls := "TelegramFeelings", name := "certain", desc := "(I)I" } : Jvm.MethodName)) ∈ TB := tb 892 (by decide +kernel) (by decide +kernel)
theorem wd893 : (Jvm.Cond.selects "TelegramFeelings" ({ cls := "TelegramFeelings", name := "certain", desc := "(I)I" } : Jvm.MethodName) ({ cls := "TelegramFeelings", name := "certain", desc := "(I)I" } : Jvm.MethodName)) ∈ TB := tb 893 (by decide +kernel) (by decide +kernel)
theorem wd894 : (Jvm.Cond.code ({ cls := "TelegramFeelings", name := "certain", desc := "(I)I" } : Jvm.MethodName) prog_1_method_23_code (3 : Nat) (Option.some Jvm.ClassFile.FieldType.int)) ∈ TB := tb 894 (by decide +kernel) (by decide +kernel)
theorem wd895 : (Jvm.Cond.methodLink "TelegramFeelings" (208 : Nat) ({ cls := "TelegramFeelings$Hearing", name := "sure", desc := "()I" } : Jvm.MethodName)) ∈ TB := tb 895 (by decide +kernel) (by decide +kernel)
theorem wd896 : (Jvm.Cond.instanceMethod ({ cls := "TelegramFeelings$Hearing", name := "sure", desc := "()I" } : Jvm.MethodName)) ∈ TB := tb 896 (by decide +kernel) (by decide +kernel)
theorem wd897 : (Jvm.Cond.selects "TelegramFeelings$Hearing" ({ cls := "TelegramFeelings$Hearing", name := "sure", desc := "()I" } : Jvm.MethodName) ({ cls := "TelegramFeelings$Hearing", name := "sure", desc := "()I" } : Jvm.MethodName)) ∈ TB := tb 897 (by decide +kernel) (by decide +kernel)
theorem wd898 : (Jvm.Cond.code ({ cls := "TelegramFeelings$Hearing", name := "sure", desc := "()I" } : Jvm.MethodName) prog_5_method_11_code (3 : Nat) (Option.some Jvm.ClassFile.FieldType.int)) ∈ TB := tb 898 (by decide +kernel) (by decide +kernel)
theorem wd899 : (Jvm.Cond.methodLink "TelegramFeelings$Hearing" (90 : Nat) ({ cls := "TelegramFeelings$Hearing", name := "sum", desc := "(IZ)J" } : Jvm.MethodName)) ∈ TB := tb 899 (by decide +kernel) (by decide +kernel)
theorem wd900 : (Jvm.Cond.methodLink "TelegramFeelingsLaw" (87 : Nat) ({ cls := "TelegramFeelings", name := "safe", desc := "(II)J" } : Jvm.MethodName)) ∈ TB := tb 900 (by decide +kernel) (by decide +kernel)
theorem wd901 : (Jvm.Cond.instanceMethod ({ cls := "TelegramFeelings", name := "safe", desc := "(II)J" } : Jvm.MethodName)) ∈ TB := tb 901 (by decide +kernel) (by decide +kernel)
theorem wd902 : (Jvm.Cond.selects "TelegramFeelings" ({ cls := "TelegramFeelings", name := "safe", desc := "(II)J" } : Jvm.MethodName) ({ cls := "TelegramFeelings", name := "safe", desc := "(II)J" } : Jvm.MethodName)) ∈ TB := tb 902 (by decide +kernel) (by decide +kernel)
theorem wd903 : (Jvm.Cond.code ({ cls := "TelegramFeelings", name := "safe", desc := "(II)J" } : Jvm.MethodName) prog_1_method_24_code (3 : Nat) (Option.some Jvm.ClassFile.FieldType.long)) ∈ TB := tb 903 (by decide +kernel) (by decide +kernel)
theorem wd904 : (Jvm.Cond.methodLink "TelegramFeelings" (211 : Nat) ({ cls := "TelegramFeelings$Hearing", name := "unharmed", desc := "()J" } : Jvm.MethodName)) ∈ TB := tb 904 (by decide +kernel) (by decide +kernel)
theorem wd905 : (Jvm.Cond.instanceMethod ({ cls := "TelegramFeelings$Hearing", name := "unharmed", desc := "()J" } : Jvm.MethodName)) ∈ TB := tb 905 (by decide +kernel) (by decide +kernel)
theorem wd906 : (Jvm.Cond.selects "TelegramFeelings$Hearing" ({ cls := "TelegramFeelings$Hearing", name := "unharmed", desc := "()J" } : Jvm.MethodName) ({ cls := "TelegramFeelings$Hearing", name := "unharmed", desc := "()J" } : Jvm.MethodName)) ∈ TB := tb 906 (by decide +kernel) (by decide +kernel)
theorem wd907 : (Jvm.Cond.code ({ cls := "TelegramFeelings$Hearing", name := "unharmed", desc := "()J" } : Jvm.MethodName) prog_5_method_13_code (6 : Nat) (Option.some Jvm.ClassFile.FieldType.long)) ∈ TB := tb 907 (by decide +kernel) (by decide +kernel)
theorem wd908 : (Jvm.Cond.methodLink "TelegramFeelings$Hearing" (96 : Nat) ({ cls := "TelegramFeelings$Telegram", name := "senseOfFirst", desc := "(I)I" } : Jvm.MethodName)) ∈ TB := tb 908 (by decide +kernel) (by decide +kernel)
theorem wd909 : (Jvm.Cond.methodLink "TelegramFeelings$Hearing" (99 : Nat) ({ cls := "TelegramFeelings$Hearing", name := "senseWith", desc := "(I)I" } : Jvm.MethodName)) ∈ TB := tb 909 (by decide +kernel) (by decide +kernel)
theorem wd911 : (Jvm.Cond.instanceMethod ({ cls := "TelegramFeelings$Hearing", name := "senseWith", desc := "(I)I" } : Jvm.MethodName)) ∈ TB := tb 911 (by decide +kernel) (by decide +kernel)
theorem wd912 : (Jvm.Cond.code ({ cls := "TelegramFeelings$Hearing", name := "senseWith", desc := "(I)I" } : Jvm.MethodName) prog_5_method_14_code (5 : Nat) (Option.some Jvm.ClassFile.FieldType.int)) ∈ TB := tb 912 (by decide +kernel) (by decide +kernel)
theorem wd914 : (Jvm.Cond.static ({ cls := "TelegramFeelings", name := "isIn", desc := "(II)Z" } : Jvm.MethodName)) ∈ TB := tb 914 (by decide +kernel) (by decide +kernel)
theorem wd915 : (Jvm.Cond.code ({ cls := "TelegramFeelings", name := "isIn", desc := "(II)Z" } : Jvm.MethodName) prog_1_method_28_code (2 : Nat) (Option.some Jvm.ClassFile.FieldType.boolean)) ∈ TB := tb 915 (by decide +kernel) (by decide +kernel)
theorem wd916 : (Jvm.Cond.methodLink "TelegramFeelings$Hearing" (102 : Nat) ({ cls := "TelegramFeelings$Hearing", name := "oddsWith", desc := "(I)J" } : Jvm.MethodName)) ∈ TB := tb 916 (by decide +kernel) (by decide +kernel)
theorem wd918 : (Jvm.Cond.instanceMethod ({ cls := "TelegramFeelings$Hearing", name := "oddsWith", desc := "(I)J" } : Jvm.MethodName)) ∈ TB := tb 918 (by decide +kernel) (by decide +kernel)
theorem wd919 : (Jvm.Cond.code ({ cls := "TelegramFeelings$Hearing", name := "oddsWith", desc := "(I)J" } : Jvm.MethodName) prog_5_method_15_code (6 : Nat) (Option.some Jvm.ClassFile.FieldType.long)) ∈ TB := tb 919 (by decide +kernel) (by decide +kernel)
theorem wd920 : (Jvm.Cond.methodLink "TelegramFeelings" (215 : Nat) ({ cls := "TelegramFeelings$Hearing", name := "allOdds", desc := "()J" } : Jvm.MethodName)) ∈ TB := tb 920 (by decide +kernel) (by decide +kernel)
theorem wd921 : (Jvm.Cond.instanceMethod ({ cls := "TelegramFeelings$Hearing", name := "allOdds", desc := "()J" } : Jvm.MethodName)) ∈ TB := tb 921 (by decide +kernel) (by decide +kernel)
theorem wd922 : (Jvm.Cond.selects "TelegramFeelings$Hearing" ({ cls := "TelegramFeelings$Hearing", name := "allOdds", desc := "()J" } : Jvm.MethodName) ({ cls := "TelegramFeelings$Hearing", name := "allOdds", desc := "()J" } : Jvm.MethodName)) ∈ TB := tb 922 (by decide +kernel) (by decide +kernel)
theorem wd923 : (Jvm.Cond.code ({ cls := "TelegramFeelings$Hearing", name := "allOdds", desc := "()J" } : Jvm.MethodName) prog_5_method_12_code (4 : Nat) (Option.some Jvm.ClassFile.FieldType.long)) ∈ TB := tb 923 (by decide +kernel) (by decide +kernel)
theorem wd924 : (Jvm.Cond.constantLong "TelegramFeelings$Hearing" (94 : Nat) (12 : Int64)) ∈ TB := tb 924 (by decide +kernel) (by decide +kernel)
theorem wd925 : (Jvm.Cond.methodLink "TelegramFeelingsLaw" (92 : Nat) ({ cls := "TelegramFeelings", name := "unsigned", desc := "(II)I" } : Jvm.MethodName)) ∈ TB := tb 925 (by decide +kernel) (by decide +kernel)
theorem wd926 : (Jvm.Cond.instanceMethod ({ cls := "TelegramFeelings", name := "unsigned", desc := "(II)I" } : Jvm.MethodName)) ∈ TB := tb 926 (by decide +kernel) (by decide +kernel)
theorem wd927 : (Jvm.Cond.selects "TelegramFeelings" ({ cls := "TelegramFeelings", name := "unsigned", desc := "(II)I" } : Jvm.MethodName) ({ cls := "TelegramFeelings", name := "unsigned", desc := "(II)I" } : Jvm.MethodName)) ∈ TB := tb 927 (by decide +kernel) (by decide +kernel)
theorem wd928 : (Jvm.Cond.code ({ cls := "TelegramFeelings", name := "unsigned", desc := "(II)I" } : Jvm.MethodName) prog_1_method_25_code (9 : Nat) (Option.some Jvm.ClassFile.FieldType.int)) ∈ TB := tb 928 (by decide +kernel) (by decide +kernel)
theorem wd929 : (Jvm.Cond.methodLink "TelegramFeelings" (221 : Nat) ({ cls := "TelegramFeelings", name := "maySend", desc := "(III)Z" } : Jvm.MethodName)) ∈ TB := tb 929 (by decide +kernel) (by decide +kernel)
theorem wd931 : (Jvm.Cond.instanceMethod ({ cls := "TelegramFeelings", name := "maySend", desc := "(III)Z" } : Jvm.MethodName)) ∈ TB := tb 931 (by decide +kernel) (by decide +kernel)
theorem wd932 : (Jvm.Cond.code ({ cls := "TelegramFeelings", name := "maySend", desc := "(III)Z" } : Jvm.MethodName) prog_1_method_26_code (4 : Nat) (Option.some Jvm.ClassFile.FieldType.boolean)) ∈ TB := tb 932 (by decide +kernel) (by decide +kernel)
theorem wd933 : (Jvm.Cond.methodLink "TelegramFeelingsLaw" (96 : Nat) ({ cls := "TelegramFeelings", name := "club", desc := "(III)I" } : Jvm.MethodName)) ∈ TB := tb 933 (by decide +kernel) (by decide +kernel)
theorem wd934 : (Jvm.Cond.instanceMethod ({ cls := "TelegramFeelings", name := "club", desc := "(III)I" } : Jvm.MethodName)) ∈ TB := tb 934 (by decide +kernel) (by decide +kernel)
theorem wd935 : (Jvm.Cond.selects "TelegramFeelings" ({ cls := "TelegramFeelings", name := "club", desc := "(III)I" } : Jvm.MethodName) ({ cls := "TelegramFeelings", name := "club", desc := "(III)I" } : Jvm.MethodName)) ∈ TB := tb 935 (by decide +kernel) (by decide +kernel)
theorem wd936 : (Jvm.Cond.code ({ cls := "TelegramFeelings", name := "club", desc := "(III)I" } : Jvm.MethodName) prog_1_method_27_code (8 : Nat) (Option.some Jvm.ClassFile.FieldType.int)) ∈ TB := tb 936 (by decide +kernel) (by decide +kernel)
theorem wd937 : (Jvm.Cond.methodLink "TelegramFeelings" (224 : Nat) ({ cls := "TelegramFeelings", name := "isIn", desc := "(II)Z" } : Jvm.MethodName)) ∈ TB := tb 937 (by decide +kernel) (by decide +kernel)
theorem wd938 : (Jvm.Cond.methodLink "TelegramFeelings" (227 : Nat) ({ cls := "TelegramFeelings", name := "shareOf", desc := "(III)I" } : Jvm.MethodName)) ∈ TB := tb 938 (by decide +kernel) (by decide +kernel)
theorem wd940 : (Jvm.Cond.instanceMethod ({ cls := "TelegramFeelings", name := "shareOf", desc := "(III)I" } : Jvm.MethodName)) ∈ TB := tb 940 (by decide +kernel) (by decide +kernel)
theorem wd941 : (Jvm.Cond.code ({ cls := "TelegramFeelings", name := "shareOf", desc := "(III)I" } : Jvm.MethodName) prog_1_method_29_code (4 : Nat) (Option.some Jvm.ClassFile.FieldType.int)) ∈ TB := tb 941 (by decide +kernel) (by decide +kernel)
theorem wd942 : (Jvm.Cond.methodLink "TelegramFeelingsLaw" (100 : Nat) ({ cls := "TelegramFeelings", name := "lacks", desc := "(I)I" } : Jvm.MethodName)) ∈ TB := tb 942 (by decide +kernel) (by decide +kernel)
theorem wd943 : (Jvm.Cond.instanceMethod ({ cls := "TelegramFeelings", name := "lacks", desc := "(I)I" } : Jvm.MethodName)) ∈ TB := tb 943 (by decide +kernel) (by decide +kernel)
theorem wd944 : (Jvm.Cond.selects "TelegramFeelings" ({ cls := "TelegramFeelings", name := "lacks", desc := "(I)I" } : Jvm.MethodName) ({ cls := "TelegramFeelings", name := "lacks", desc := "(I)I" } : Jvm.MethodName)) ∈ TB := tb 944 (by decide +kernel) (by decide +kernel)
theorem wd945 : (Jvm.Cond.code ({ cls := "TelegramFeelings", name := "lacks", desc := "(I)I" } : Jvm.MethodName) prog_1_method_30_code (2 : Nat) (Option.some Jvm.ClassFile.FieldType.int)) ∈ TB := tb 945 (by decide +kernel) (by decide +kernel)
theorem wd946 : (Jvm.Cond.methodLink "TelegramFeelings" (230 : Nat) ({ cls := "TelegramFeelings", name := "wordless", desc := "()I" } : Jvm.MethodName)) ∈ TB := tb 946 (by decide +kernel) (by decide +kernel)
theorem wd948 : (Jvm.Cond.instanceMethod ({ cls := "TelegramFeelings", name := "wordless", desc := "()I" } : Jvm.MethodName)) ∈ TB := tb 948 (by decide +kernel) (by decide +kernel)
theorem wd949 : (Jvm.Cond.code ({ cls := "TelegramFeelings", name := "wordless", desc := "()I" } : Jvm.MethodName) prog_1_method_31_code (3 : Nat) (Option.some Jvm.ClassFile.FieldType.int)) ∈ TB := tb 949 (by decide +kernel) (by decide +kernel)
theorem wd950 : (Jvm.Cond.methodLink "TelegramFeelings" (233 : Nat) ({ cls := "TelegramFeelings", name := "dearest", desc := "()I" } : Jvm.MethodName)) ∈ TB := tb 950 (by decide +kernel) (by decide +kernel)
theorem wd952 : (Jvm.Cond.instanceMethod ({ cls := "TelegramFeelings", name := "dearest", desc := "()I" } : Jvm.MethodName)) ∈ TB := tb 952 (by decide +kernel) (by decide +kernel)
theorem wd953 : (Jvm.Cond.code ({ cls := "TelegramFeelings", name := "dearest", desc := "()I" } : Jvm.MethodName) prog_1_method_32_code (7 : Nat) (Option.some Jvm.ClassFile.FieldType.int)) ∈ TB := tb 953 (by decide +kernel) (by decide +kernel)
theorem wd954 : (Jvm.Cond.methodLink "TelegramFeelingsLaw" (104 : Nat) ({ cls := "TelegramFeelings", name := "drawn", desc := "(III)I" } : Jvm.MethodName)) ∈ TB := tb 954 (by decide +kernel) (by decide +kernel)
theorem wd955 : (Jvm.Cond.instanceMethod ({ cls := "TelegramFeelings", name := "drawn", desc := "(III)I" } : Jvm.MethodName)) ∈ TB := tb 955 (by decide +kernel) (by decide +kernel)
theorem wd956 : (Jvm.Cond.selects "TelegramFeelings" ({ cls := "TelegramFeelings", name := "drawn", desc := "(III)I" } : Jvm.MethodName) ({ cls := "TelegramFeelings", name := "drawn", desc := "(III)I" } : Jvm.MethodName)) ∈ TB := tb 956 (by decide +kernel) (by decide +kernel)
theorem wd957 : (Jvm.Cond.code ({ cls := "TelegramFeelings", name := "drawn", desc := "(III)I" } : Jvm.MethodName) prog_1_method_33_code (6 : Nat) (Option.some Jvm.ClassFile.FieldType.int)) ∈ TB := tb 957 (by decide +kernel) (by decide +kernel)
theorem wd958 : (Jvm.Cond.methodLink "TelegramFeelings" (239 : Nat) ({ cls := "TelegramFeelings$Hearing", name := "draws", desc := "(IIZ)I" } : Jvm.MethodName)) ∈ TB := tb 958 (by decide +kernel) (by decide +kernel)
theorem wd959 : (Jvm.Cond.instanceMethod ({ cls := "TelegramFeelings$Hearing", name := "draws", desc := "(IIZ)I" } : Jvm.MethodName)) ∈ TB := tb 959 (by decide +kernel) (by decide +kernel)
theorem wd960 : (Jvm.Cond.selects "TelegramFeelings$Hearing" ({ cls := "TelegramFeelings$Hearing", name := "draws", desc := "(IIZ)I" } : Jvm.MethodName) ({ cls := "TelegramFeelings$Hearing", name := "draws", desc := "(IIZ)I" } : Jvm.MethodName)) ∈ TB := tb 960 (by decide +kernel) (by decide +kernel)
theorem wd961 : (Jvm.Cond.code ({ cls := "TelegramFeelings$Hearing", name := "draws", desc := "(IIZ)I" } : Jvm.MethodName) prog_5_method_16_code (16 : Nat) (Option.some Jvm.ClassFile.FieldType.int)) ∈ TB := tb 961 (by decide +kernel) (by decide +kernel)
theorem wd962 : (Jvm.Cond.constant "TelegramFeelings$Hearing" (109 : Nat) (1103515245 : Int32)) ∈ TB := tb 962 (by decide +kernel) (by decide +kernel)
theorem wd963 : (Jvm.Cond.methodLink "TelegramFeelings$Hearing" (110 : Nat) ({ cls := "TelegramFeelings$Telegram", name := "mayEnd", desc := "(I)Z" } : Jvm.MethodName)) ∈ TB := tb 963 (by decide +kernel) (by decide +kernel)
theorem wd964 : (Jvm.Cond.methodLink "TelegramFeelingsLaw" (108 : Nat) ({ cls := "TelegramFeelings", name := "send", desc := "(II)I" } : Jvm.MethodName)) ∈ TB := tb 964 (by decide +kernel) (by decide +kernel)
theorem wd965 : (Jvm.Cond.instanceMethod ({ cls := "TelegramFeelings", name := "send", desc := "(II)I" } : Jvm.MethodName)) ∈ TB := tb 965 (by decide +kernel) (by decide +kernel)
theorem wd966 : (Jvm.Cond.selects "TelegramFeelings" ({ cls := "TelegramFeelings", name := "send", desc := "(II)I" } : Jvm.MethodName) ({ cls := "TelegramFeelings", name := "send", desc := "(II)I" } : Jvm.MethodName)) ∈ TB := tb 966 (by decide +kernel) (by decide +kernel)
theorem wd967 : (Jvm.Cond.code ({ cls := "TelegramFeelings", name := "send", desc := "(II)I" } : Jvm.MethodName) prog_1_method_34_code (8 : Nat) (Option.some Jvm.ClassFile.FieldType.int)) ∈ TB := tb 967 (by decide +kernel) (by decide +kernel)
theorem wd968 : (Jvm.Cond.methodLink "TelegramFeelings" (243 : Nat) ({ cls := "TelegramFeelings$Deeds", name := "refuse", desc := "(I)I" } : Jvm.MethodName)) ∈ TB := tb 968 (by decide +kernel) (by decide +kernel)
theorem wd969 : (Jvm.Cond.instanceMethod ({ cls := "TelegramFeelings$Deeds", name := "refuse", desc := "(I)I" } : Jvm.MethodName)) ∈ TB := tb 969 (by decide +kernel) (by decide +kernel)
theorem wd970 : (Jvm.Cond.selects "TelegramFeelings$Deeds" ({ cls := "TelegramFeelings$Deeds", name := "refuse", desc := "(I)I" } : Jvm.MethodName) ({ cls := "TelegramFeelings$Deeds", name := "refuse", desc := "(I)I" } : Jvm.MethodName)) ∈ TB := tb 970 (by decide +kernel) (by decide +kernel)
theorem wd971 : (Jvm.Cond.code ({ cls := "TelegramFeelings$Deeds", name := "refuse", desc := "(I)I" } : Jvm.MethodName) prog_4_method_2_code (2 : Nat) (Option.some Jvm.ClassFile.FieldType.int)) ∈ TB := tb 971 (by decide +kernel) (by decide +kernel)
theorem wd972 : (Jvm.Cond.methodLink "TelegramFeelings" (246 : Nat) ({ cls := "TelegramFeelings$Deeds", name := "noteWire", desc := "(II)V" } : Jvm.MethodName)) ∈ TB := tb 972 (by decide +kernel) (by decide +kernel)
theorem wd973 : (Jvm.Cond.instanceMethod ({ cls := "TelegramFeelings$Deeds", name := "noteWire", desc := "(II)V" } : Jvm.MethodName)) ∈ TB := tb 973 (by decide +kernel) (by decide +kernel)
theorem wd974 : (Jvm.Cond.selects "TelegramFeelings$Deeds" ({ cls := "TelegramFeelings$Deeds", name := "noteWire", desc := "(II)V" } : Jvm.MethodName) ({ cls := "TelegramFeelings$Deeds", name := "noteWire", desc := "(II)V" } : Jvm.MethodName)) ∈ TB := tb 974 (by decide +kernel) (by decide +kernel)
theorem wd975 : (Jvm.Cond.code ({ cls := "TelegramFeelings$Deeds", name := "noteWire", desc := "(II)V" } : Jvm.MethodName) prog_4_method_3_code (3 : Nat) (Option.none : Option Jvm.ClassFile.FieldType)) ∈ TB := tb 975 (by decide +kernel) (by decide +kernel)
theorem wd976 : (Jvm.Cond.methodLink "TelegramFeelings$Deeds" (28 : Nat) ({ cls := "TelegramFeelings$Office", name := "value", desc := "(II)I" } : Jvm.MethodName)) ∈ TB := tb 976 (by decide +kernel) (by decide +kernel)
theorem wd977 : (Jvm.Cond.methodLink "TelegramFeelingsLaw" (112 : Nat) ({ cls := "TelegramFeelings", name := "night", desc := "()I" } : Jvm.MethodName)) ∈ TB := tb 977 (by decide +kernel) (by decide +kernel)
theorem wd978 : (Jvm.Cond.instanceMethod ({ cls := "TelegramFeelings", name := "night", desc := "()I" } : Jvm.MethodName)) ∈ TB := tb 978 (by decide +kernel) (by decide +kernel)
theorem wd979 : (Jvm.Cond.selects "TelegramFeelings" ({ cls := "TelegramFeelings", name := "night", desc := "()I" } : Jvm.MethodName) ({ cls := "TelegramFeelings", name := "night", desc := "()I" } : Jvm.MethodName)) ∈ TB := tb 979 (by decide +kernel) (by decide +kernel)
theorem wd980 : (Jvm.Cond.code ({ cls := "TelegramFeelings", name := "night", desc := "()I" } : Jvm.MethodName) prog_1_method_35_code (1 : Nat) (Option.some Jvm.ClassFile.FieldType.int)) ∈ TB := tb 980 (by decide +kernel) (by decide +kernel)
theorem wd981 : (Jvm.Cond.methodLink "TelegramFeelingsLaw" (116 : Nat) ({ cls := "TelegramFeelings", name := "led", desc := "(I)I" } : Jvm.MethodName)) ∈ TB := tb 981 (by decide +kernel) (by decide +kernel)
theorem wd982 : (Jvm.Cond.instanceMethod ({ cls := "TelegramFeelings", name := "led", desc := "(I)I" } : Jvm.MethodName)) ∈ TB := tb 982 (by decide +kernel) (by decide +kernel)
theorem wd983 : (Jvm.Cond.selects "TelegramFeelings" ({ cls := "TelegramFeelings", name := "led", desc := "(I)I" } : Jvm.MethodName) ({ cls := "TelegramFeelings", name := "led", desc := "(I)I" } : Jvm.MethodName)) ∈ TB := tb 983 (by decide +kernel) (by decide +kernel)
theorem wd984 : (Jvm.Cond.code ({ cls := "TelegramFeelings", name := "led", desc := "(I)I" } : Jvm.MethodName) prog_1_method_36_code (2 : Nat) (Option.some Jvm.ClassFile.FieldType.int)) ∈ TB := tb 984 (by decide +kernel) (by decide +kernel)
theorem wd985 : (Jvm.Cond.methodLink "TelegramFeelingsLaw" (120 : Nat) ({ cls := "TelegramFeelings", name := "image", desc := "()I" } : Jvm.MethodName)) ∈ TB := tb 985 (by decide +kernel) (by decide +kernel)
theorem wd986 : (Jvm.Cond.instanceMethod ({ cls := "TelegramFeelings", name := "image", desc := "()I" } : Jvm.MethodName)) ∈ TB := tb 986 (by decide +kernel) (by decide +kernel)
theorem wd987 : (Jvm.Cond.selects "TelegramFeelings" ({ cls := "TelegramFeelings", name := "image", desc := "()I" } : Jvm.MethodName) ({ cls := "TelegramFeelings", name := "image", desc := "()I" } : Jvm.MethodName)) ∈ TB := tb 987 (by decide +kernel) (by decide +kernel)
theorem wd988 : (Jvm.Cond.code ({ cls := "TelegramFeelings", name := "image", desc := "()I" } : Jvm.MethodName) prog_1_method_37_code (1 : Nat) (Option.some Jvm.ClassFile.FieldType.int)) ∈ TB := tb 988 (by decide +kernel) (by decide +kernel)
theorem wd989 : (Jvm.Cond.methodLink "TelegramFeelings" (254 : Nat) ({ cls := "TelegramFeelings$Deeds", name := "keepImage", desc := "()I" } : Jvm.MethodName)) ∈ TB := tb 989 (by decide +kernel) (by decide +kernel)
theorem wd990 : (Jvm.Cond.instanceMethod ({ cls := "TelegramFeelings$Deeds", name := "keepImage", desc := "()I" } : Jvm.MethodName)) ∈ TB := tb 990 (by decide +kernel) (by decide +kernel)
theorem wd991 : (Jvm.Cond.selects "TelegramFeelings$Deeds" ({ cls := "TelegramFeelings$Deeds", name := "keepImage", desc := "()I" } : Jvm.MethodName) ({ cls := "TelegramFeelings$Deeds", name := "keepImage", desc := "()I" } : Jvm.MethodName)) ∈ TB := tb 991 (by decide +kernel) (by decide +kernel)
theorem wd992 : (Jvm.Cond.code ({ cls := "TelegramFeelings$Deeds", name := "keepImage", desc := "()I" } : Jvm.MethodName) prog_4_method_4_code (2 : Nat) (Option.some Jvm.ClassFile.FieldType.int)) ∈ TB := tb 992 (by decide +kernel) (by decide +kernel)
theorem wd993 : (Jvm.Cond.methodLink "TelegramFeelings$Deeds" (46 : Nat) ({ cls := "java/lang/System", name := "arraycopy", desc := "(Ljava/lang/Object;ILjava/lang/Object;II)V" } : Jvm.MethodName)) ∈ TB := tb 993 (by decide +kernel) (by decide +kernel)
theorem wd994 : (Jvm.Cond.methodLink "TelegramFeelingsLaw" (124 : Nat) ({ cls := "TelegramFeelings", name := "back", desc := "()I" } : Jvm.MethodName)) ∈ TB := tb 994 (by decide +kernel) (by decide +kernel)
theorem wd995 : (Jvm.Cond.instanceMethod ({ cls := "TelegramFeelings", name := "back", desc := "()I" } : Jvm.MethodName)) ∈ TB := tb 995 (by decide +kernel) (by decide +kernel)
theorem wd996 : (Jvm.Cond.selects "TelegramFeelings" ({ cls := "TelegramFeelings", name := "back", desc := "()I" } : Jvm.MethodName) ({ cls := "TelegramFeelings", name := "back", desc := "()I" } : Jvm.MethodName)) ∈ TB := tb 996 (by decide +kernel) (by decide +kernel)
theorem wd997 : (Jvm.Cond.code ({ cls := "TelegramFeelings", name := "back", desc := "()I" } : Jvm.MethodName) prog_1_method_38_code (1 : Nat) (Option.some Jvm.ClassFile.FieldType.int)) ∈ TB := tb 997 (by decide +kernel) (by decide +kernel)
theorem wd998 : (Jvm.Cond.methodLink "TelegramFeelings" (257 : Nat) ({ cls := "TelegramFeelings$Deeds", name := "layBack", desc := "()I" } : Jvm.MethodName)) ∈ TB := tb 998 (by decide +kernel) (by decide +kernel)
theorem wd999 : (Jvm.Cond.instanceMethod ({ cls := "TelegramFeelings$Deeds", name := "layBack", desc := "()I" } : Jvm.MethodName)) ∈ TB := tb 999 (by decide +kernel) (by decide +kernel)
theorem wd1000 : (Jvm.Cond.selects "TelegramFeelings$Deeds" ({ cls := "TelegramFeelings$Deeds", name := "layBack", desc := "()I" } : Jvm.MethodName) ({ cls := "TelegramFeelings$Deeds", name := "layBack", desc := "()I" } : Jvm.MethodName)) ∈ TB := tb 1000 (by decide +kernel) (by decide +kernel)
theorem wd1001 : (Jvm.Cond.code ({ cls := "TelegramFeelings$Deeds", name := "layBack", desc := "()I" } : Jvm.MethodName) prog_4_method_5_code (2 : Nat) (Option.some Jvm.ClassFile.FieldType.int)) ∈ TB := tb 1001 (by decide +kernel) (by decide +kernel)
theorem wd1002 : (Jvm.Cond.methodLink "TelegramFeelings$Deeds" (52 : Nat) ({ cls := "TelegramFeelings$Office", name := "set", desc := "(III)V" } : Jvm.MethodName)) ∈ TB := tb 1002 (by decide +kernel) (by decide +kernel)
theorem wd1003 : (Jvm.Cond.methodLink "TelegramFeelingsLaw" (128 : Nat) ({ cls := "TelegramFeelings", name := "undo", desc := "()I" } : Jvm.MethodName)) ∈ TB := tb 1003 (by decide +kernel) (by decide +kernel)
theorem wd1004 : (Jvm.Cond.instanceMethod ({ cls := "TelegramFeelings", name := "undo", desc := "()I" } : Jvm.MethodName)) ∈ TB := tb 1004 (by decide +kernel) (by decide +kernel)
theorem wd1005 : (Jvm.Cond.selects "TelegramFeelings" ({ cls := "TelegramFeelings", name := "undo", desc := "()I" } : Jvm.MethodName) ({ cls := "TelegramFeelings", name := "undo", desc := "()I" } : Jvm.MethodName)) ∈ TB := tb 1005 (by decide +kernel) (by decide +kernel)
theorem wd1006 : (Jvm.Cond.code ({ cls := "TelegramFeelings", name := "undo", desc := "()I" } : Jvm.MethodName) prog_1_method_39_code (1 : Nat) (Option.some Jvm.ClassFile.FieldType.int)) ∈ TB := tb 1006 (by decide +kernel) (by decide +kernel)
theorem wd1007 : (Jvm.Cond.methodLink "TelegramFeelings" (260 : Nat) ({ cls := "TelegramFeelings$Changes", name := "undoOne", desc := "()I" } : Jvm.MethodName)) ∈ TB := tb 1007 (by decide +kernel) (by decide +kernel)
theorem wd1008 : (Jvm.Cond.instanceMethod ({ cls := "TelegramFeelings$Changes", name := "undoOne", desc := "()I" } : Jvm.MethodName)) ∈ TB := tb 1008 (by decide +kernel) (by decide +kernel)
theorem wd1009 : (Jvm.Cond.selects "TelegramFeelings$Changes" ({ cls := "TelegramFeelings$Changes", name := "undoOne", desc := "()I" } : Jvm.MethodName) ({ cls := "TelegramFeelings$Changes", name := "undoOne", desc := "()I" } : Jvm.MethodName)) ∈ TB := tb 1009 (by decide +kernel) (by decide +kernel)
theorem wd1010 : (Jvm.Cond.code ({ cls := "TelegramFeelings$Changes", name := "undoOne", desc := "()I" } : Jvm.MethodName) prog_3_method_4_code (1 : Nat) (Option.some Jvm.ClassFile.FieldType.int)) ∈ TB := tb 1010 (by decide +kernel) (by decide +kernel)
theorem wd1011 : (Jvm.Cond.methodLink "TelegramFeelings$Changes" (44 : Nat) ({ cls := "TelegramFeelings$Office", name := "set", desc := "(III)V" } : Jvm.MethodName)) ∈ TB := tb 1011 (by decide +kernel) (by decide +kernel)
theorem wd1012 : (Jvm.Cond.methodLink "TelegramFeelingsLaw" (132 : Nat) ({ cls := "TelegramFeelings", name := "redo", desc := "()I" } : Jvm.MethodName)) ∈ TB := tb 1012 (by decide +kernel) (by decide +kernel)
theorem wd1013 : (Jvm.Cond.instanceMethod ({ cls := "TelegramFeelings", name := "redo", desc := "()I" } : Jvm.MethodName)) ∈ TB := tb 1013 (by decide +kernel) (by decide +kernel)
theorem wd1014 : (Jvm.Cond.selects "TelegramFeelings" ({ cls := "TelegramFeelings", name := "redo", desc := "()I" } : Jvm.MethodName) ({ cls := "TelegramFeelings", name := "redo", desc := "()I" } : Jvm.MethodName)) ∈ TB := tb 1014 (by decide +kernel) (by decide +kernel)
theorem wd1015 : (Jvm.Cond.code ({ cls := "TelegramFeelings", name := "redo", desc := "()I" } : Jvm.MethodName) prog_1_method_40_code (1 : Nat) (Option.some Jvm.ClassFile.FieldType.int)) ∈ TB := tb 1015 (by decide +kernel) (by decide +kernel)
theorem wd1016 : (Jvm.Cond.methodLink "TelegramFeelings" (263 : Nat) ({ cls := "TelegramFeelings$Changes", name := "redoOne", desc := "()I" } : Jvm.MethodName)) ∈ TB := tb 1016 (by decide +kernel) (by decide +kernel)
theorem wd1017 : (Jvm.Cond.instanceMethod ({ cls := "TelegramFeelings$Changes", name := "redoOne", desc := "()I" } : Jvm.MethodName)) ∈ TB := tb 1017 (by decide +kernel) (by decide +kernel)
theorem wd1018 : (Jvm.Cond.selects "TelegramFeelings$Changes" ({ cls := "TelegramFeelings$Changes", name := "redoOne", desc := "()I" } : Jvm.MethodName) ({ cls := "TelegramFeelings$Changes", name := "redoOne", desc := "()I" } : Jvm.MethodName)) ∈ TB := tb 1018 (by decide +kernel) (by decide +kernel)
theorem wd1019 : (Jvm.Cond.code ({ cls := "TelegramFeelings$Changes", name := "redoOne", desc := "()I" } : Jvm.MethodName) prog_3_method_5_code (1 : Nat) (Option.some Jvm.ClassFile.FieldType.int)) ∈ TB := tb 1019 (by decide +kernel) (by decide +kernel)
theorem wd1020 : (Jvm.Cond.methodLink "TelegramFeelingsLaw" (136 : Nat) ({ cls := "TelegramFeelings", name := "body", desc := "(I)I" } : Jvm.MethodName)) ∈ TB := tb 1020 (by decide +kernel) (by decide +kernel)
theorem wd1021 : (Jvm.Cond.instanceMethod ({ cls := "TelegramFeelings", name := "body", desc := "(I)I" } : Jvm.MethodName)) ∈ TB := tb 1021 (by decide +kernel) (by decide +kernel)
theorem wd1022 : (Jvm.Cond.selects "TelegramFeelings" ({ cls := "TelegramFeelings", name := "body", desc := "(I)I" } : Jvm.MethodName) ({ cls := "TelegramFeelings", name := "body", desc := "(I)I" } : Jvm.MethodName)) ∈ TB := tb 1022 (by decide +kernel) (by decide +kernel)
theorem wd1023 : (Jvm.Cond.code ({ cls := "TelegramFeelings", name := "body", desc := "(I)I" } : Jvm.MethodName) prog_1_method_41_code (2 : Nat) (Option.some Jvm.ClassFile.FieldType.int)) ∈ TB := tb 1023 (by decide +kernel) (by decide +kernel)
theorem wd1024 : (Jvm.Cond.methodLink "TelegramFeelings" (266 : Nat) ({ cls := "TelegramFeelings$Bodies", name := "add", desc := "(I)I" } : Jvm.MethodName)) ∈ TB := tb 1024 (by decide +kernel) (by decide +kernel)
theorem wd1025 : (Jvm.Cond.instanceMethod ({ cls := "TelegramFeelings$Bodies", name := "add", desc := "(I)I" } : Jvm.MethodName)) ∈ TB := tb 1025 (by decide +kernel) (by decide +kernel)
theorem wd1026 : (Jvm.Cond.selects "TelegramFeelings$Bodies" ({ cls := "TelegramFeelings$Bodies", name := "add", desc := "(I)I" } : Jvm.MethodName) ({ cls := "TelegramFeelings$Bodies", name := "add", desc := "(I)I" } : Jvm.MethodName)) ∈ TB := tb 1026 (by decide +kernel) (by decide +kernel)
theorem wd1027 : (Jvm.Cond.code ({ cls := "TelegramFeelings$Bodies", name := "add", desc := "(I)I" } : Jvm.MethodName) prog_2_method_2_code (2 : Nat) (Option.some Jvm.ClassFile.FieldType.int)) ∈ TB := tb 1027 (by decide +kernel) (by decide +kernel)
theorem wd1028 : (Jvm.Cond.methodLink "TelegramFeelingsLaw" (140 : Nat) ({ cls := "TelegramFeelings", name := "act", desc := "(III)I" } : Jvm.MethodName)) ∈ TB := tb 1028 (by decide +kernel) (by decide +kernel)
theorem wd1029 : (Jvm.Cond.instanceMethod ({ cls := "TelegramFeelings", name := "act", desc := "(III)I" } : Jvm.MethodName)) ∈ TB := tb 1029 (by decide +kernel) (by decide +kernel)
theorem wd1030 : (Jvm.Cond.selects "TelegramFeelings" ({ cls := "TelegramFeelings", name := "act", desc := "(III)I" } : Jvm.MethodName) ({ cls := "TelegramFeelings", name := "act", desc := "(III)I" } : Jvm.MethodName)) ∈ TB := tb 1030 (by decide +kernel) (by decide +kernel)
theorem wd1031 : (Jvm.Cond.code ({ cls := "TelegramFeelings", name := "act", desc := "(III)I" } : Jvm.MethodName) prog_1_method_42_code (4 : Nat) (Option.some Jvm.ClassFile.FieldType.int)) ∈ TB := tb 1031 (by decide +kernel) (by decide +kernel)
theorem wd1032 : (Jvm.Cond.methodLink "TelegramFeelings" (269 : Nat) ({ cls := "TelegramFeelings$Bodies", name := "runAct", desc := "(III)I" } : Jvm.MethodName)) ∈ TB := tb 1032 (by decide +kernel) (by decide +kernel)
theorem wd1033 : (Jvm.Cond.instanceMethod ({ cls := "TelegramFeelings$Bodies", name := "runAct", desc := "(III)I" } : Jvm.MethodName)) ∈ TB := tb 1033 (by decide +kernel) (by decide +kernel)
theorem wd1034 : (Jvm.Cond.selects "TelegramFeelings$Bodies" ({ cls := "TelegramFeelings$Bodies", name := "runAct", desc := "(III)I" } : Jvm.MethodName) ({ cls := "TelegramFeelings$Bodies", name := "runAct", desc := "(III)I" } : Jvm.MethodName)) ∈ TB := tb 1034 (by decide +kernel) (by decide +kernel)
theorem wd1035 : (Jvm.Cond.code ({ cls := "TelegramFeelings$Bodies", name := "runAct", desc := "(III)I" } : Jvm.MethodName) prog_2_method_7_code (4 : Nat) (Option.some Jvm.ClassFile.FieldType.int)) ∈ TB := tb 1035 (by decide +kernel) (by decide +kernel)
theorem wd1036 : (Jvm.Cond.methodLink "TelegramFeelings$Bodies" (35 : Nat) ({ cls := "TelegramFeelings$Bodies", name := "kindOf", desc := "(I)I" } : Jvm.MethodName)) ∈ TB := tb 1036 (by decide +kernel) (by decide +kernel)
theorem wd1037 : (Jvm.Cond.instanceMethod ({ cls := "TelegramFeelings$Bodies", name := "kindOf", desc := "(I)I" } : Jvm.MethodName)) ∈ TB := tb 1037 (by decide +kernel) (by decide +kernel)
theorem wd1038 : (Jvm.Cond.selects "TelegramFeelings$Bodies" ({ cls := "TelegramFeelings$Bodies", name := "kindOf", desc := "(I)I" } : Jvm.MethodName) ({ cls := "TelegramFeelings$Bodies", name := "kindOf", desc := "(I)I" } : Jvm.MethodName)) ∈ TB := tb 1038 (by decide +kernel) (by decide +kernel)
theorem wd1039 : (Jvm.Cond.code ({ cls := "TelegramFeelings$Bodies", name := "kindOf", desc := "(I)I" } : Jvm.MethodName) prog_2_method_3_code (2 : Nat) (Option.some Jvm.ClassFile.FieldType.int)) ∈ TB := tb 1039 (by decide +kernel) (by decide +kernel)
theorem wd1040 : (Jvm.Cond.methodLink "TelegramFeelings$Bodies" (41 : Nat) ({ cls := "TelegramFeelings$Bodies", name := "says", desc := "(II)I" } : Jvm.MethodName)) ∈ TB := tb 1040 (by decide +kernel) (by decide +kernel)
theorem wd1042 : (Jvm.Cond.instanceMethod ({ cls := "TelegramFeelings$Bodies", name := "says", desc := "(II)I" } : Jvm.MethodName)) ∈ TB := tb 1042 (by decide +kernel) (by decide +kernel)
theorem wd1043 : (Jvm.Cond.code ({ cls := "TelegramFeelings$Bodies", name := "says", desc := "(II)I" } : Jvm.MethodName) prog_2_method_9_code (3 : Nat) (Option.some Jvm.ClassFile.FieldType.int)) ∈ TB := tb 1043 (by decide +kernel) (by decide +kernel)
theorem wd1044 : (Jvm.Cond.methodLink "TelegramFeelings$Bodies" (54 : Nat) ({ cls := "TelegramFeelings$Bodies", name := "begins", desc := "(I)V" } : Jvm.MethodName)) ∈ TB := tb 1044 (by decide +kernel) (by decide +kernel)
theorem wd1046 : (Jvm.Cond.instanceMethod ({ cls := "TelegramFeelings$Bodies", name := "begins", desc := "(I)V" } : Jvm.MethodName)) ∈ TB := tb 1046 (by decide +kernel) (by decide +kernel)
theorem wd1047 : (Jvm.Cond.code ({ cls := "TelegramFeelings$Bodies", name := "begins", desc := "(I)V" } : Jvm.MethodName) prog_2_method_8_code (2 : Nat) (Option.none : Option Jvm.ClassFile.FieldType)) ∈ TB := tb 1047 (by decide +kernel) (by decide +kernel)
theorem wd1048 : (Jvm.Cond.methodLink "TelegramFeelings$Bodies" (25 : Nat) ({ cls := "TelegramFeelings$Bodies", name := "above", desc := "(I)I" } : Jvm.MethodName)) ∈ TB := tb 1048 (by decide +kernel) (by decide +kernel)
theorem wd1049 : (Jvm.Cond.static ({ cls := "TelegramFeelings$Bodies", name := "above", desc := "(I)I" } : Jvm.MethodName)) ∈ TB := tb 1049 (by decide +kernel) (by decide +kernel)
theorem wd1050 : (Jvm.Cond.code ({ cls := "TelegramFeelings$Bodies", name := "above", desc := "(I)I" } : Jvm.MethodName) prog_2_method_4_code (1 : Nat) (Option.some Jvm.ClassFile.FieldType.int)) ∈ TB := tb 1050 (by decide +kernel) (by decide +kernel)
theorem wd1051 : (Jvm.Cond.fieldLink "TelegramFeelings$Bodies" (22 : Nat) "TelegramFeelings$Bodies" "ABOVE" "[I") ∈ TB := tb 1051 (by decide +kernel) (by decide +kernel)
theorem wd1053 : (Jvm.Cond.methodLink "TelegramFeelings$Bodies" (45 : Nat) ({ cls := "TelegramFeelings$Bodies", name := "costs", desc := "(II)I" } : Jvm.MethodName)) ∈ TB := tb 1053 (by decide +kernel) (by decide +kernel)
theorem wd1055 : (Jvm.Cond.instanceMethod ({ cls := "TelegramFeelings$Bodies", name := "costs", desc := "(II)I" } : Jvm.MethodName)) ∈ TB := tb 1055 (by decide +kernel) (by decide +kernel)
theorem wd1056 : (Jvm.Cond.code ({ cls := "TelegramFeelings$Bodies", name := "costs", desc := "(II)I" } : Jvm.MethodName) prog_2_method_10_code (4 : Nat) (Option.some Jvm.ClassFile.FieldType.int)) ∈ TB := tb 1056 (by decide +kernel) (by decide +kernel)
theorem wd1057 : (Jvm.Cond.methodLink "TelegramFeelings$Bodies" (48 : Nat) ({ cls := "TelegramFeelings$Bodies", name := "errs", desc := "(II)I" } : Jvm.MethodName)) ∈ TB := tb 1057 (by decide +kernel) (by decide +kernel)
theorem wd1059 : (Jvm.Cond.instanceMethod ({ cls := "TelegramFeelings$Bodies", name := "errs", desc := "(II)I" } : Jvm.MethodName)) ∈ TB := tb 1059 (by decide +kernel) (by decide +kernel)
theorem wd1060 : (Jvm.Cond.code ({ cls := "TelegramFeelings$Bodies", name := "errs", desc := "(II)I" } : Jvm.MethodName) prog_2_method_11_code (4 : Nat) (Option.some Jvm.ClassFile.FieldType.int)) ∈ TB := tb 1060 (by decide +kernel) (by decide +kernel)
theorem wd1061 : (Jvm.Cond.methodLink "TelegramFeelings$Bodies" (51 : Nat) ({ cls := "TelegramFeelings$Bodies", name := "tells", desc := "(II)I" } : Jvm.MethodName)) ∈ TB := tb 1061 (by decide +kernel) (by decide +kernel)
theorem wd1063 : (Jvm.Cond.instanceMethod ({ cls := "TelegramFeelings$Bodies", name := "tells", desc := "(II)I" } : Jvm.MethodName)) ∈ TB := tb 1063 (by decide +kernel) (by decide +kernel)
theorem wd1064 : (Jvm.Cond.code ({ cls := "TelegramFeelings$Bodies", name := "tells", desc := "(II)I" } : Jvm.MethodName) prog_2_method_12_code (4 : Nat) (Option.some Jvm.ClassFile.FieldType.int)) ∈ TB := tb 1064 (by decide +kernel) (by decide +kernel)
theorem wd1065 : (Jvm.Cond.methodLink "TelegramFeelingsLaw" (144 : Nat) ({ cls := "TelegramFeelings", name := "trace", desc := "(I)I" } : Jvm.MethodName)) ∈ TB := tb 1065 (by decide +kernel) (by decide +kernel)
theorem wd1066 : (Jvm.Cond.instanceMethod ({ cls := "TelegramFeelings", name := "trace", desc := "(I)I" } : Jvm.MethodName)) ∈ TB := tb 1066 (by decide +kernel) (by decide +kernel)
theorem wd1067 : (Jvm.Cond.selects "TelegramFeelings" ({ cls := "TelegramFeelings", name := "trace", desc := "(I)I" } : Jvm.MethodName) ({ cls := "TelegramFeelings", name := "trace", desc := "(I)I" } : Jvm.MethodName)) ∈ TB := tb 1067 (by decide +kernel) (by decide +kernel)
theorem wd1068 : (Jvm.Cond.code ({ cls := "TelegramFeelings", name := "trace", desc := "(I)I" } : Jvm.MethodName) prog_1_method_43_code (2 : Nat) (Option.some Jvm.ClassFile.FieldType.int)) ∈ TB := tb 1068 (by decide +kernel) (by decide +kernel)
theorem wd1069 : (Jvm.Cond.methodLink "TelegramFeelings" (272 : Nat) ({ cls := "TelegramFeelings$Bodies", name := "ranAt", desc := "(I)I" } : Jvm.MethodName)) ∈ TB := tb 1069 (by decide +kernel) (by decide +kernel)
theorem wd1070 : (Jvm.Cond.instanceMethod ({ cls := "TelegramFeelings$Bodies", name := "ranAt", desc := "(I)I" } : Jvm.MethodName)) ∈ TB := tb 1070 (by decide +kernel) (by decide +kernel)
theorem wd1071 : (Jvm.Cond.selects "TelegramFeelings$Bodies" ({ cls := "TelegramFeelings$Bodies", name := "ranAt", desc := "(I)I" } : Jvm.MethodName) ({ cls := "TelegramFeelings$Bodies", name := "ranAt", desc := "(I)I" } : Jvm.MethodName)) ∈ TB := tb 1071 (by decide +kernel) (by decide +kernel)
theorem wd1072 : (Jvm.Cond.code ({ cls := "TelegramFeelings$Bodies", name := "ranAt", desc := "(I)I" } : Jvm.MethodName) prog_2_method_6_code (2 : Nat) (Option.some Jvm.ClassFile.FieldType.int)) ∈ TB := tb 1072 (by decide +kernel) (by decide +kernel)
theorem wd1073 : (Jvm.Cond.methodLink "TelegramFeelingsLaw" (148 : Nat) ({ cls := "TelegramFeelings", name := "keep", desc := "(II)I" } : Jvm.MethodName)) ∈ TB := tb 1073 (by decide +kernel) (by decide +kernel)
theorem wd1074 : (Jvm.Cond.instanceMethod ({ cls := "TelegramFeelings", name := "keep", desc := "(II)I" } : Jvm.MethodName)) ∈ TB := tb 1074 (by decide +kernel) (by decide +kernel)
theorem wd1075 : (Jvm.Cond.selects "TelegramFeelings" ({ cls := "TelegramFeelings", name := "keep", desc := "(II)I" } : Jvm.MethodName) ({ cls := "TelegramFeelings", name := "keep", desc := "(II)I" } : Jvm.MethodName)) ∈ TB := tb 1075 (by decide +kernel) (by decide +kernel)
theorem wd1076 : (Jvm.Cond.code ({ cls := "TelegramFeelings", name := "keep", desc := "(II)I" } : Jvm.MethodName) prog_1_method_44_code (3 : Nat) (Option.some Jvm.ClassFile.FieldType.int)) ∈ TB := tb 1076 (by decide +kernel) (by decide +kernel)
theorem wd1077 : (Jvm.Cond.methodLink "TelegramFeelings" (275 : Nat) ({ cls := "TelegramFeelings$Shelves", name := "has", desc := "(I)Z" } : Jvm.MethodName)) ∈ TB := tb 1077 (by decide +kernel) (by decide +kernel)
theorem wd1078 : (Jvm.Cond.methodLink "TelegramFeelings" (279 : Nat) ({ cls := "TelegramFeelings$Shelves", name := "hold", desc := "(II)V" } : Jvm.MethodName)) ∈ TB := tb 1078 (by decide +kernel) (by decide +kernel)
theorem wd1079 : (Jvm.Cond.instanceMethod ({ cls := "TelegramFeelings$Shelves", name := "hold", desc := "(II)V" } : Jvm.MethodName)) ∈ TB := tb 1079 (by decide +kernel) (by decide +kernel)
theorem wd1080 : (Jvm.Cond.selects "TelegramFeelings$Shelves" ({ cls := "TelegramFeelings$Shelves", name := "hold", desc := "(II)V" } : Jvm.MethodName) ({ cls := "TelegramFeelings$Shelves", name := "hold", desc := "(II)V" } : Jvm.MethodName)) ∈ TB := tb 1080 (by decide +kernel) (by decide +kernel)
theorem wd1081 : (Jvm.Cond.code ({ cls := "TelegramFeelings$Shelves", name := "hold", desc := "(II)V" } : Jvm.MethodName) prog_9_method_7_code (3 : Nat) (Option.none : Option Jvm.ClassFile.FieldType)) ∈ TB := tb 1081 (by decide +kernel) (by decide +kernel)
theorem wd1082 : (Jvm.Cond.methodLink "TelegramFeelingsLaw" (152 : Nat) ({ cls := "TelegramFeelings", name := "row", desc := "(III)I" } : Jvm.MethodName)) ∈ TB := tb 1082 (by decide +kernel) (by decide +kernel)
theorem wd1083 : (Jvm.Cond.instanceMethod ({ cls := "TelegramFeelings", name := "row", desc := "(III)I" } : Jvm.MethodName)) ∈ TB := tb 1083 (by decide +kernel) (by decide +kernel)
theorem wd1084 : (Jvm.Cond.selects "TelegramFeelings" ({ cls := "TelegramFeelings", name := "row", desc := "(III)I" } : Jvm.MethodName) ({ cls := "TelegramFeelings", name := "row", desc := "(III)I" } : Jvm.MethodName)) ∈ TB := tb 1084 (by decide +kernel) (by decide +kernel)
theorem wd1085 : (Jvm.Cond.code ({ cls := "TelegramFeelings", name := "row", desc := "(III)I" } : Jvm.MethodName) prog_1_method_45_code (4 : Nat) (Option.some Jvm.ClassFile.FieldType.int)) ∈ TB := tb 1085 (by decide +kernel) (by decide +kernel)
theorem wd1086 : (Jvm.Cond.methodLink "TelegramFeelings" (282 : Nat) ({ cls := "TelegramFeelings$Shelves", name := "lay", desc := "(III)V" } : Jvm.MethodName)) ∈ TB := tb 1086 (by decide +kernel) (by decide +kernel)
theorem wd1087 : (Jvm.Cond.instanceMethod ({ cls := "TelegramFeelings$Shelves", name := "lay", desc := "(III)V" } : Jvm.MethodName)) ∈ TB := tb 1087 (by decide +kernel) (by decide +kernel)
theorem wd1088 : (Jvm.Cond.selects "TelegramFeelings$Shelves" ({ cls := "TelegramFeelings$Shelves", name := "lay", desc := "(III)V" } : Jvm.MethodName) ({ cls := "TelegramFeelings$Shelves", name := "lay", desc := "(III)V" } : Jvm.MethodName)) ∈ TB := tb 1088 (by decide +kernel) (by decide +kernel)
theorem wd1089 : (Jvm.Cond.code ({ cls := "TelegramFeelings$Shelves", name := "lay", desc := "(III)V" } : Jvm.MethodName) prog_9_method_8_code (4 : Nat) (Option.none : Option Jvm.ClassFile.FieldType)) ∈ TB := tb 1089 (by decide +kernel) (by decide +kernel)
theorem wd1090 : (Jvm.Cond.methodLink "TelegramFeelings$Shelves" (36 : Nat) ({ cls := "java/util/Arrays", name := "fill", desc := "([JJ)V" } : Jvm.MethodName)) ∈ TB := tb 1090 (by decide +kernel) (by decide +kernel)
theorem wd1091 : (Jvm.Cond.methodLink "TelegramFeelingsLaw" (158 : Nat) ({ cls := "TelegramFeelings", name := "put", desc := "(IIJ)I" } : Jvm.MethodName)) ∈ TB := tb 1091 (by decide +kernel) (by decide +kernel)
theorem wd1092 : (Jvm.Cond.instanceMethod ({ cls := "TelegramFeelings", name := "put", desc := "(IIJ)I" } : Jvm.MethodName)) ∈ TB := tb 1092 (by decide +kernel) (by decide +kernel)
theorem wd1093 : (Jvm.Cond.selects "TelegramFeelings" ({ cls := "TelegramFeelings", name := "put", desc := "(IIJ)I" } : Jvm.MethodName) ({ cls := "TelegramFeelings", name := "put", desc := "(IIJ)I" } : Jvm.MethodName)) ∈ TB := tb 1093 (by decide +kernel) (by decide +kernel)
theorem wd1094 : (Jvm.Cond.code ({ cls := "TelegramFeelings", name := "put", desc := "(IIJ)I" } : Jvm.MethodName) prog_1_method_46_code (6 : Nat) (Option.some Jvm.ClassFile.FieldType.int)) ∈ TB := tb 1094 (by decide +kernel) (by decide +kernel)
theorem wd1095 : (Jvm.Cond.methodLink "TelegramFeelings" (285 : Nat) ({ cls := "TelegramFeelings$Shelves", name := "placeRefusal", desc := "(II)I" } : Jvm.MethodName)) ∈ TB := tb 1095 (by decide +kernel) (by decide +kernel)
theorem wd1096 : (Jvm.Cond.instanceMethod ({ cls := "TelegramFeelings$Shelves", name := "placeRefusal", desc := "(II)I" } : Jvm.MethodName)) ∈ TB := tb 1096 (by decide +kernel) (by decide +kernel)
theorem wd1097 : (Jvm.Cond.selects "TelegramFeelings$Shelves" ({ cls := "TelegramFeelings$Shelves", name := "placeRefusal", desc := "(II)I" } : Jvm.MethodName) ({ cls := "TelegramFeelings$Shelves", name := "placeRefusal", desc := "(II)I" } : Jvm.MethodName)) ∈ TB := tb 1097 (by decide +kernel) (by decide +kernel)
theorem wd1098 : (Jvm.Cond.code ({ cls := "TelegramFeelings$Shelves", name := "placeRefusal", desc := "(II)I" } : Jvm.MethodName) prog_9_method_4_code (3 : Nat) (Option.some Jvm.ClassFile.FieldType.int)) ∈ TB := tb 1098 (by decide +kernel) (by decide +kernel)
theorem wd1099 : (Jvm.Cond.methodLink "TelegramFeelings" (288 : Nat) ({ cls := "TelegramFeelings$Shelves", name := "store", desc := "(IIJ)V" } : Jvm.MethodName)) ∈ TB := tb 1099 (by decide +kernel) (by decide +kernel)
theorem wd1100 : (Jvm.Cond.instanceMethod ({ cls := "TelegramFeelings$Shelves", name := "store", desc := "(IIJ)V" } : Jvm.MethodName)) ∈ TB := tb 1100 (by decide +kernel) (by decide +kernel)
theorem wd1101 : (Jvm.Cond.selects "TelegramFeelings$Shelves" ({ cls := "TelegramFeelings$Shelves", name := "store", desc := "(IIJ)V" } : Jvm.MethodName) ({ cls := "TelegramFeelings$Shelves", name := "store", desc := "(IIJ)V" } : Jvm.MethodName)) ∈ TB := tb 1101 (by decide +kernel) (by decide +kernel)
theorem wd1102 : (Jvm.Cond.code ({ cls := "TelegramFeelings$Shelves", name := "store", desc := "(IIJ)V" } : Jvm.MethodName) prog_9_method_10_code (5 : Nat) (Option.none : Option Jvm.ClassFile.FieldType)) ∈ TB := tb 1102 (by decide +kernel) (by decide +kernel)
theorem wd1103 : (Jvm.Cond.methodLink "TelegramFeelings$Shelves" (39 : Nat) ({ cls := "TelegramFeelings$Shelves", name := "cut", desc := "(IJ)J" } : Jvm.MethodName)) ∈ TB := tb 1103 (by decide +kernel) (by decide +kernel)
theorem wd1104 : (Jvm.Cond.static ({ cls := "TelegramFeelings$Shelves", name := "cut", desc := "(IJ)J" } : Jvm.MethodName)) ∈ TB := tb 1104 (by decide +kernel) (by decide +kernel)
theorem wd1105 : (Jvm.Cond.code ({ cls := "TelegramFeelings$Shelves", name := "cut", desc := "(IJ)J" } : Jvm.MethodName) prog_9_method_11_code (3 : Nat) (Option.some Jvm.ClassFile.FieldType.long)) ∈ TB := tb 1105 (by decide +kernel) (by decide +kernel)
theorem wd1106 : (Jvm.Cond.methodLink "TelegramFeelingsLaw" (163 : Nat) ({ cls := "TelegramFeelings", name := "element", desc := "(II)J" } : Jvm.MethodName)) ∈ TB := tb 1106 (by decide +kernel) (by decide +kernel)
theorem wd1107 : (Jvm.Cond.instanceMethod ({ cls := "TelegramFeelings", name := "element", desc := "(II)J" } : Jvm.MethodName)) ∈ TB := tb 1107 (by decide +kernel) (by decide +kernel)
theorem wd1108 : (Jvm.Cond.selects "TelegramFeelings" ({ cls := "TelegramFeelings", name := "element", desc := "(II)J" } : Jvm.MethodName) ({ cls := "TelegramFeelings", name := "element", desc := "(II)J" } : Jvm.MethodName)) ∈ TB := tb 1108 (by decide +kernel) (by decide +kernel)
theorem wd1109 : (Jvm.Cond.code ({ cls := "TelegramFeelings", name := "element", desc := "(II)J" } : Jvm.MethodName) prog_1_method_47_code (3 : Nat) (Option.some Jvm.ClassFile.FieldType.long)) ∈ TB := tb 1109 (by decide +kernel) (by decide +kernel)
theorem wd1110 : (Jvm.Cond.methodLink "TelegramFeelingsLaw" (167 : Nat) ({ cls := "TelegramFeelings", name := "shift", desc := "(IIIII)I" } : Jvm.MethodName)) ∈ TB := tb 1110 (by decide +kernel) (by decide +kernel)
theorem wd1111 : (Jvm.Cond.instanceMethod ({ cls := "TelegramFeelings", name := "shift", desc := "(IIIII)I" } : Jvm.MethodName)) ∈ TB := tb 1111 (by decide +kernel) (by decide +kernel)
theorem wd1112 : (Jvm.Cond.selects "TelegramFeelings" ({ cls := "TelegramFeelings", name := "shift", desc := "(IIIII)I" } : Jvm.MethodName) ({ cls := "TelegramFeelings", name := "shift", desc := "(IIIII)I" } : Jvm.MethodName)) ∈ TB := tb 1112 (by decide +kernel) (by decide +kernel)
theorem wd1113 : (Jvm.Cond.code ({ cls := "TelegramFeelings", name := "shift", desc := "(IIIII)I" } : Jvm.MethodName) prog_1_method_48_code (6 : Nat) (Option.some Jvm.ClassFile.FieldType.int)) ∈ TB := tb 1113 (by decide +kernel) (by decide +kernel)
theorem wd1114 : (Jvm.Cond.methodLink "TelegramFeelings" (292 : Nat) ({ cls := "TelegramFeelings$Shelves", name := "move", desc := "(IIIII)I" } : Jvm.MethodName)) ∈ TB := tb 1114 (by decide +kernel) (by decide +kernel)
theorem wd1115 : (Jvm.Cond.instanceMethod ({ cls := "TelegramFeelings$Shelves", name := "move", desc := "(IIIII)I" } : Jvm.MethodName)) ∈ TB := tb 1115 (by decide +kernel) (by decide +kernel)
theorem wd1116 : (Jvm.Cond.selects "TelegramFeelings$Shelves" ({ cls := "TelegramFeelings$Shelves", name := "move", desc := "(IIIII)I" } : Jvm.MethodName) ({ cls := "TelegramFeelings$Shelves", name := "move", desc := "(IIIII)I" } : Jvm.MethodName)) ∈ TB := tb 1116 (by decide +kernel) (by decide +kernel)
theorem wd1117 : (Jvm.Cond.code ({ cls := "TelegramFeelings$Shelves", name := "move", desc := "(IIIII)I" } : Jvm.MethodName) prog_9_method_12_code (6 : Nat) (Option.some Jvm.ClassFile.FieldType.int)) ∈ TB := tb 1117 (by decide +kernel) (by decide +kernel)
theorem wd1118 : (Jvm.Cond.methodLink "TelegramFeelings$Shelves" (43 : Nat) ({ cls := "java/lang/System", name := "arraycopy", desc := "(Ljava/lang/Object;ILjava/lang/Object;II)V" } : Jvm.MethodName)) ∈ TB := tb 1118 (by decide +kernel) (by decide +kernel)
theorem wd1119 : (Jvm.Cond.methodLink "TelegramFeelingsLaw" (172 : Nat) ({ cls := "TelegramFeelings", name := "taken", desc := "(II)I" } : Jvm.MethodName)) ∈ TB := tb 1119 (by decide +kernel) (by decide +kernel)
theorem wd1120 : (Jvm.Cond.instanceMethod ({ cls := "TelegramFeelings", name := "taken", desc := "(II)I" } : Jvm.MethodName)) ∈ TB := tb 1120 (by decide +kernel) (by decide +kernel)
theorem wd1121 : (Jvm.Cond.selects "TelegramFeelings" ({ cls := "TelegramFeelings", name := "taken", desc := "(II)I" } : Jvm.MethodName) ({ cls := "TelegramFeelings", name := "taken", desc := "(II)I" } : Jvm.MethodName)) ∈ TB := tb 1121 (by decide +kernel) (by decide +kernel)
theorem wd1122 : (Jvm.Cond.code ({ cls := "TelegramFeelings", name := "taken", desc := "(II)I" } : Jvm.MethodName) prog_1_method_49_code (5 : Nat) (Option.some Jvm.ClassFile.FieldType.int)) ∈ TB := tb 1122 (by decide +kernel) (by decide +kernel)
theorem wd1123 : (Jvm.Cond.methodLink "TelegramFeelings" (296 : Nat) ({ cls := "TelegramFeelings$Shelves", name := "bodyOn", desc := "(I)I" } : Jvm.MethodName)) ∈ TB := tb 1123 (by decide +kernel) (by decide +kernel)
theorem wd1124 : (Jvm.Cond.instanceMethod ({ cls := "TelegramFeelings$Shelves", name := "bodyOn", desc := "(I)I" } : Jvm.MethodName)) ∈ TB := tb 1124 (by decide +kernel) (by decide +kernel)
theorem wd1125 : (Jvm.Cond.selects "TelegramFeelings$Shelves" ({ cls := "TelegramFeelings$Shelves", name := "bodyOn", desc := "(I)I" } : Jvm.MethodName) ({ cls := "TelegramFeelings$Shelves", name := "bodyOn", desc := "(I)I" } : Jvm.MethodName)) ∈ TB := tb 1125 (by decide +kernel) (by decide +kernel)
theorem wd1126 : (Jvm.Cond.code ({ cls := "TelegramFeelings$Shelves", name := "bodyOn", desc := "(I)I" } : Jvm.MethodName) prog_9_method_6_code (2 : Nat) (Option.some Jvm.ClassFile.FieldType.int)) ∈ TB := tb 1126 (by decide +kernel) (by decide +kernel)
theorem wd1127 : (Jvm.Cond.methodLink "TelegramFeelings" (299 : Nat) ({ cls := "TelegramFeelings$Bodies", name := "kindOf", desc := "(I)I" } : Jvm.MethodName)) ∈ TB := tb 1127 (by decide +kernel) (by decide +kernel)
theorem wd1128 : (Jvm.Cond.methodLink "TelegramFeelings" (302 : Nat) ({ cls := "TelegramFeelings$Bodies", name := "isUnder", desc := "(II)Z" } : Jvm.MethodName)) ∈ TB := tb 1128 (by decide +kernel) (by decide +kernel)
theorem wd1129 : (Jvm.Cond.static ({ cls := "TelegramFeelings$Bodies", name := "isUnder", desc := "(II)Z" } : Jvm.MethodName)) ∈ TB := tb 1129 (by decide +kernel) (by decide +kernel)
theorem wd1130 : (Jvm.Cond.code ({ cls := "TelegramFeelings$Bodies", name := "isUnder", desc := "(II)Z" } : Jvm.MethodName) prog_2_method_5_code (4 : Nat) (Option.some Jvm.ClassFile.FieldType.boolean)) ∈ TB := tb 1130 (by decide +kernel) (by decide +kernel)
theorem wd1131 : (Jvm.Cond.methodLink "TelegramFeelingsLaw" (176 : Nat) ({ cls := "TelegramFeelings", name := "count", desc := "(I)I" } : Jvm.MethodName)) ∈ TB := tb 1131 (by decide +kernel) (by decide +kernel)
theorem wd1132 : (Jvm.Cond.instanceMethod ({ cls := "TelegramFeelings", name := "count", desc := "(I)I" } : Jvm.MethodName)) ∈ TB := tb 1132 (by decide +kernel) (by decide +kernel)
theorem wd1133 : (Jvm.Cond.selects "TelegramFeelings" ({ cls := "TelegramFeelings", name := "count", desc := "(I)I" } : Jvm.MethodName) ({ cls := "TelegramFeelings", name := "count", desc := "(I)I" } : Jvm.MethodName)) ∈ TB := tb 1133 (by decide +kernel) (by decide +kernel)
theorem wd1134 : (Jvm.Cond.code ({ cls := "TelegramFeelings", name := "count", desc := "(I)I" } : Jvm.MethodName) prog_1_method_50_code (2 : Nat) (Option.some Jvm.ClassFile.FieldType.int)) ∈ TB := tb 1134 (by decide +kernel) (by decide +kernel)
theorem wd1135 : (Jvm.Cond.classLink "TelegramFeelingsLaw" (10 : Nat) "TelegramFeelingsModel") ∈ TB := tb 1135 (by decide +kernel) (by decide +kernel)
theorem wd1136 : (Jvm.Cond.instantiable "TelegramFeelingsModel" (60 : Nat)) ∈ TB := tb 1136 (by decide +kernel) (by decide +kernel)
theorem wd1137 : (Jvm.Cond.methodLink "TelegramFeelingsLaw" (12 : Nat) ({ cls := "TelegramFeelingsModel", name := "<init>", desc := "()V" } : Jvm.MethodName)) ∈ TB := tb 1137 (by decide +kernel) (by decide +kernel)
theorem wd1138 : (Jvm.Cond.instanceMethod ({ cls := "TelegramFeelingsModel", name := "<init>", desc := "()V" } : Jvm.MethodName)) ∈ TB := tb 1138 (by decide +kernel) (by decide +kernel)
theorem wd1139 : (Jvm.Cond.code ({ cls := "TelegramFeelingsModel", name := "<init>", desc := "()V" } : Jvm.MethodName) prog_12_method_1_code (1 : Nat) (Option.none : Option Jvm.ClassFile.FieldType)) ∈ TB := tb 1139 (by decide +kernel) (by decide +kernel)
theorem wd1140 : (Jvm.Cond.methodLink "TelegramFeelingsModel" (3 : Nat) ({ cls := "java/lang/Object", name := "<init>", desc := "()V" } : Jvm.MethodName)) ∈ TB := tb 1140 (by decide +kernel) (by decide +kernel)
theorem wd1141 : (Jvm.Cond.fieldLink "TelegramFeelingsModel" (139 : Nat) "TelegramFeelingsModel" "words1" "I") ∈ TB := tb 1141 (by decide +kernel) (by decide +kernel)
theorem wd1142 : (Jvm.Cond.fieldLink "TelegramFeelingsModel" (9 : Nat) "TelegramFeelingsModel" "cost" "[I") ∈ TB := tb 1142 (by decide +kernel) (by decide +kernel)
theorem wd1143 : (Jvm.Cond.fieldLink "TelegramFeelingsModel" (15 : Nat) "TelegramFeelingsModel" "sense" "[I") ∈ TB := tb 1143 (by decide +kernel) (by decide +kernel)
theorem wd1144 : (Jvm.Cond.fieldLink "TelegramFeelingsModel" (18 : Nat) "TelegramFeelingsModel" "sortOf" "[I") ∈ TB := tb 1144 (by decide +kernel) (by decide +kernel)
theorem wd1145 : (Jvm.Cond.fieldLink "TelegramFeelingsModel" (21 : Nat) "TelegramFeelingsModel" "letters" "[I") ∈ TB := tb 1145 (by decide +kernel) (by decide +kernel)
theorem wd1146 : (Jvm.Cond.fieldLink "TelegramFeelingsModel" (24 : Nat) "TelegramFeelingsModel" "slip" "[I") ∈ TB := tb 1146 (by decide +kernel) (by decide +kernel)
theorem wd1147 : (Jvm.Cond.fieldLink "TelegramFeelingsModel" (146 : Nat) "TelegramFeelingsModel" "people" "I") ∈ TB := tb 1147 (by decide +kernel) (by decide +kernel)
theorem wd1148 : (Jvm.Cond.fieldLink "TelegramFeelingsModel" (27 : Nat) "TelegramFeelingsModel" "purse" "[I") ∈ TB := tb 1148 (by decide +kernel) (by decide +kernel)
theorem wd1149 : (Jvm.Cond.fieldLink "TelegramFeelingsModel" (30 : Nat) "TelegramFeelingsModel" "feels" "[I") ∈ TB := tb 1149 (by decide +kernel) (by decide +kernel)
theorem wd1150 : (Jvm.Cond.fieldLink "TelegramFeelingsModel" (33 : Nat) "TelegramFeelingsModel" "told" "[I") ∈ TB := tb 1150 (by decide +kernel) (by decide +kernel)
theorem wd1151 : (Jvm.Cond.fieldLink "TelegramFeelingsModel" (166 : Nat) "TelegramFeelingsModel" "doneMany" "I") ∈ TB := tb 1151 (by decide +kernel) (by decide +kernel)
theorem wd1152 : (Jvm.Cond.fieldLink "TelegramFeelingsModel" (163 : Nat) "TelegramFeelingsModel" "undoneMany" "I") ∈ TB := tb 1152 (by decide +kernel) (by decide +kernel)
theorem wd1153 : (Jvm.Cond.fieldLink "TelegramFeelingsModel" (36 : Nat) "TelegramFeelingsModel" "changeOf" "[I") ∈ TB := tb 1153 (by decide +kernel) (by decide +kernel)
theorem wd1154 : (Jvm.Cond.fieldLink "TelegramFeelingsModel" (39 : Nat) "TelegramFeelingsModel" "changeAt" "[I") ∈ TB := tb 1154 (by decide +kernel) (by decide +kernel)
theorem wd1155 : (Jvm.Cond.fieldLink "TelegramFeelingsModel" (42 : Nat) "TelegramFeelingsModel" "before" "[I") ∈ TB := tb 1155 (by decide +kernel) (by decide +kernel)
theorem wd1156 : (Jvm.Cond.fieldLink "TelegramFeelingsModel" (45 : Nat) "TelegramFeelingsModel" "behind" "[I") ∈ TB := tb 1156 (by decide +kernel) (by decide +kernel)
theorem wd1157 : (Jvm.Cond.fieldLink "TelegramFeelingsModel" (48 : Nat) "TelegramFeelingsModel" "tape" "[B") ∈ TB := tb 1157 (by decide +kernel) (by decide +kernel)
theorem wd1158 : (Jvm.Cond.fieldLink "TelegramFeelingsModel" (189 : Nat) "TelegramFeelingsModel" "taped" "I") ∈ TB := tb 1158 (by decide +kernel) (by decide +kernel)
theorem wd1159 : (Jvm.Cond.fieldLink "TelegramFeelingsModel" (192 : Nat) "TelegramFeelingsModel" "here" "I") ∈ TB := tb 1159 (by decide +kernel) (by decide +kernel)
theorem wd1160 : (Jvm.Cond.fieldLink "TelegramFeelingsModel" (195 : Nat) "TelegramFeelingsModel" "fault" "I") ∈ TB := tb 1160 (by decide +kernel) (by decide +kernel)
theorem wd1161 : (Jvm.Cond.fieldLink "TelegramFeelingsModel" (201 : Nat) "TelegramFeelingsModel" "open" "I") ∈ TB := tb 1161 (by decide +kernel) (by decide +kernel)
theorem wd1162 : (Jvm.Cond.fieldLink "TelegramFeelingsModel" (198 : Nat) "TelegramFeelingsModel" "laid" "I") ∈ TB := tb 1162 (by decide +kernel) (by decide +kernel)
theorem wd1163 : (Jvm.Cond.fieldLink "TelegramFeelingsModel" (52 : Nat) "TelegramFeelingsModel" "act" "[B") ∈ TB := tb 1163 (by decide +kernel) (by decide +kernel)
theorem wd1164 : (Jvm.Cond.fieldLink "TelegramFeelingsModel" (55 : Nat) "TelegramFeelingsModel" "with" "[I") ∈ TB := tb 1164 (by decide +kernel) (by decide +kernel)
theorem wd1165 : (Jvm.Cond.fieldLink "TelegramFeelingsModel" (58 : Nat) "TelegramFeelingsModel" "lineMany" "[I") ∈ TB := tb 1165 (by decide +kernel) (by decide +kernel)
theorem wd1166 : (Jvm.Cond.fieldLink "TelegramFeelingsModel" (61 : Nat) "TelegramFeelingsModel" "testEnd" "[S") ∈ TB := tb 1166 (by decide +kernel) (by decide +kernel)
theorem wd1167 : (Jvm.Cond.fieldLink "TelegramFeelingsModel" (65 : Nat) "TelegramFeelingsModel" "lineEnd" "[S") ∈ TB := tb 1167 (by decide +kernel) (by decide +kernel)
theorem wd1168 : (Jvm.Cond.fieldLink "TelegramFeelingsModel" (68 : Nat) "TelegramFeelingsModel" "facts" "[I") ∈ TB := tb 1168 (by decide +kernel) (by decide +kernel)
theorem wd1169 : (Jvm.Cond.fieldLink "TelegramFeelingsModel" (71 : Nat) "TelegramFeelingsModel" "pile" "[I") ∈ TB := tb 1169 (by decide +kernel) (by decide +kernel)
theorem wd1170 : (Jvm.Cond.fieldLink "TelegramFeelingsModel" (256 : Nat) "TelegramFeelingsModel" "hasLaw" "Z") ∈ TB := tb 1170 (by decide +kernel) (by decide +kernel)
theorem wd1171 : (Jvm.Cond.fieldLink "TelegramFeelingsModel" (74 : Nat) "TelegramFeelingsModel" "wired" "[I") ∈ TB := tb 1171 (by decide +kernel) (by decide +kernel)
theorem wd1172 : (Jvm.Cond.fieldLink "TelegramFeelingsModel" (266 : Nat) "TelegramFeelingsModel" "wiredMany" "I") ∈ TB := tb 1172 (by decide +kernel) (by decide +kernel)
theorem wd1173 : (Jvm.Cond.fieldLink "TelegramFeelingsModel" (77 : Nat) "TelegramFeelingsModel" "joinedPrice" "[I") ∈ TB := tb 1173 (by decide +kernel) (by decide +kernel)
theorem wd1174 : (Jvm.Cond.fieldLink "TelegramFeelingsModel" (80 : Nat) "TelegramFeelingsModel" "joinedRuns" "[I") ∈ TB := tb 1174 (by decide +kernel) (by decide +kernel)
theorem wd1175 : (Jvm.Cond.fieldLink "TelegramFeelingsModel" (83 : Nat) "TelegramFeelingsModel" "toSay" "[I") ∈ TB := tb 1175 (by decide +kernel) (by decide +kernel)
theorem wd1176 : (Jvm.Cond.fieldLink "TelegramFeelingsModel" (308 : Nat) "TelegramFeelingsModel" "yes1" "I") ∈ TB := tb 1176 (by decide +kernel) (by decide +kernel)
theorem wd1177 : (Jvm.Cond.fieldLink "TelegramFeelingsModel" (301 : Nat) "TelegramFeelingsModel" "no1" "I") ∈ TB := tb 1177 (by decide +kernel) (by decide +kernel)
theorem wd1178 : (Jvm.Cond.fieldLink "TelegramFeelingsModel" (86 : Nat) "TelegramFeelingsModel" "now1" "[I") ∈ TB := tb 1178 (by decide +kernel) (by decide +kernel)
theorem wd1179 : (Jvm.Cond.fieldLink "TelegramFeelingsModel" (89 : Nat) "TelegramFeelingsModel" "then1" "[I") ∈ TB := tb 1179 (by decide +kernel) (by decide +kernel)
theorem wd1180 : (Jvm.Cond.fieldLink "TelegramFeelingsModel" (92 : Nat) "TelegramFeelingsModel" "leastOf" "[I") ∈ TB := tb 1180 (by decide +kernel) (by decide +kernel)
theorem wd1181 : (Jvm.Cond.fieldLink "TelegramFeelingsModel" (95 : Nat) "TelegramFeelingsModel" "manyLeft" "[J") ∈ TB := tb 1181 (by decide +kernel) (by decide +kernel)
theorem wd1182 : (Jvm.Cond.fieldLink "TelegramFeelingsModel" (99 : Nat) "TelegramFeelingsModel" "oddsLeft" "[J") ∈ TB := tb 1182 (by decide +kernel) (by decide +kernel)
theorem wd1183 : (Jvm.Cond.fieldLink "TelegramFeelingsModel" (102 : Nat) "TelegramFeelingsModel" "bestLeft" "[J") ∈ TB := tb 1183 (by decide +kernel) (by decide +kernel)
theorem wd1184 : (Jvm.Cond.fieldLink "TelegramFeelingsModel" (337 : Nat) "TelegramFeelingsModel" "bit1" "I") ∈ TB := tb 1184 (by decide +kernel) (by decide +kernel)
theorem wd1185 : (Jvm.Cond.fieldLink "TelegramFeelingsModel" (105 : Nat) "TelegramFeelingsModel" "ledOf" "[I") ∈ TB := tb 1185 (by decide +kernel) (by decide +kernel)
theorem wd1186 : (Jvm.Cond.fieldLink "TelegramFeelingsModel" (374 : Nat) "TelegramFeelingsModel" "hasImage" "Z") ∈ TB := tb 1186 (by decide +kernel) (by decide +kernel)
theorem wd1187 : (Jvm.Cond.fieldLink "TelegramFeelingsModel" (377 : Nat) "TelegramFeelingsModel" "keptMany" "I") ∈ TB := tb 1187 (by decide +kernel) (by decide +kernel)
theorem wd1188 : (Jvm.Cond.fieldLink "TelegramFeelingsModel" (380 : Nat) "TelegramFeelingsModel" "keptNight" "I") ∈ TB := tb 1188 (by decide +kernel) (by decide +kernel)
theorem wd1189 : (Jvm.Cond.fieldLink "TelegramFeelingsModel" (108 : Nat) "TelegramFeelingsModel" "keptPurse" "[I") ∈ TB := tb 1189 (by decide +kernel) (by decide +kernel)
theorem wd1190 : (Jvm.Cond.fieldLink "TelegramFeelingsModel" (111 : Nat) "TelegramFeelingsModel" "keptFeels" "[I") ∈ TB := tb 1190 (by decide +kernel) (by decide +kernel)
theorem wd1191 : (Jvm.Cond.fieldLink "TelegramFeelingsModel" (114 : Nat) "TelegramFeelingsModel" "keptLed" "[I") ∈ TB := tb 1191 (by decide +kernel) (by decide +kernel)
theorem wd1192 : (Jvm.Cond.fieldLink "TelegramFeelingsModel" (383 : Nat) "TelegramFeelingsModel" "bodies" "I") ∈ TB := tb 1192 (by decide +kernel) (by decide +kernel)
theorem wd1193 : (Jvm.Cond.fieldLink "TelegramFeelingsModel" (117 : Nat) "TelegramFeelingsModel" "kind" "[I") ∈ TB := tb 1193 (by decide +kernel) (by decide +kernel)
theorem wd1194 : (Jvm.Cond.fieldLink "TelegramFeelingsModel" (386 : Nat) "TelegramFeelingsModel" "traces" "I") ∈ TB := tb 1194 (by decide +kernel) (by decide +kernel)
theorem wd1195 : (Jvm.Cond.fieldLink "TelegramFeelingsModel" (120 : Nat) "TelegramFeelingsModel" "traced" "[I") ∈ TB := tb 1195 (by decide +kernel) (by decide +kernel)
theorem wd1196 : (Jvm.Cond.fieldLink "TelegramFeelingsModel" (123 : Nat) "TelegramFeelingsModel" "holds" "[I") ∈ TB := tb 1196 (by decide +kernel) (by decide +kernel)
theorem wd1197 : (Jvm.Cond.fieldLink "TelegramFeelingsModel" (126 : Nat) "TelegramFeelingsModel" "size" "[I") ∈ TB := tb 1197 (by decide +kernel) (by decide +kernel)
theorem wd1198 : (Jvm.Cond.fieldLink "TelegramFeelingsModel" (129 : Nat) "TelegramFeelingsModel" "elements" "[J") ∈ TB := tb 1198 (by decide +kernel) (by decide +kernel)
theorem wd1199 : (Jvm.Cond.fieldLink "TelegramFeelingsModel" (132 : Nat) "TelegramFeelingsModel" "shifted" "[J") ∈ TB := tb 1199 (by decide +kernel) (by decide +kernel)
theorem wd1321 : (Jvm.Cond.arrayClass Jvm.ClassFile.FieldType.short) ∈ TB := tb 1321 (by decide +kernel) (by decide +kernel)
theorem wd1322 : (Jvm.Cond.methodLink "TelegramFeelingsLaw" (17 : Nat) ({ cls := "TelegramFeelingsModel", name := "word", desc := "(II)I" } : Jvm.MethodName)) ∈ TB := tb 1322 (by decide +kernel) (by decide +kernel)
theorem wd1323 : (Jvm.Cond.instanceMethod ({ cls := "TelegramFeelingsModel", name := "word", desc := "(II)I" } : Jvm.MethodName)) ∈ TB := tb 1323 (by decide +kernel) (by decide +kernel)
theorem wd1324 : (Jvm.Cond.selects "TelegramFeelingsModel" ({ cls := "TelegramFeelingsModel", name := "word", desc := "(II)I" } : Jvm.MethodName) ({ cls := "TelegramFeelingsModel", name := "word", desc := "(II)I" } : Jvm.MethodName)) ∈ TB := tb 1324 (by decide +kernel) (by decide +kernel)
theorem wd1325 : (Jvm.Cond.code ({ cls := "TelegramFeelingsModel", name := "word", desc := "(II)I" } : Jvm.MethodName) prog_12_method_8_code (3 : Nat) (Option.some Jvm.ClassFile.FieldType.int)) ∈ TB := tb 1325 (by decide +kernel) (by decide +kernel)
theorem wd1326 : (Jvm.Cond.methodLink "TelegramFeelingsModel" (142 : Nat) ({ cls := "TelegramFeelingsModel", name := "in", desc := "(III)Z" } : Jvm.MethodName)) ∈ TB := tb 1326 (by decide +kernel) (by decide +kernel)
theorem wd1327 : (Jvm.Cond.static ({ cls := "TelegramFeelingsModel", name := "in", desc := "(III)Z" } : Jvm.MethodName)) ∈ TB := tb 1327 (by decide +kernel) (by decide +kernel)
theorem wd1328 : (Jvm.Cond.code ({ cls := "TelegramFeelingsModel", name := "in", desc := "(III)Z" } : Jvm.MethodName) prog_12_method_3_code (3 : Nat) (Option.some Jvm.ClassFile.FieldType.boolean)) ∈ TB := tb 1328 (by decide +kernel) (by decide +kernel)
theorem wd1329 : (Jvm.Cond.methodLink "TelegramFeelingsModel" (149 : Nat) ({ cls := "TelegramFeelingsModel", name := "addWord", desc := "(III)I" } : Jvm.MethodName)) ∈ TB := tb 1329 (by decide +kernel) (by decide +kernel)
theorem wd1331 : (Jvm.Cond.instanceMethod ({ cls := "TelegramFeelingsModel", name := "addWord", desc := "(III)I" } : Jvm.MethodName)) ∈ TB := tb 1331 (by decide +kernel) (by decide +kernel)
theorem wd1332 : (Jvm.Cond.code ({ cls := "TelegramFeelingsModel", name := "addWord", desc := "(III)I" } : Jvm.MethodName) prog_12_method_7_code (4 : Nat) (Option.some Jvm.ClassFile.FieldType.int)) ∈ TB := tb 1332 (by decide +kernel) (by decide +kernel)
theorem wd1333 : (Jvm.Cond.methodLink "TelegramFeelingsLaw" (22 : Nat) ({ cls := "TelegramFeelingsModel", name := "words", desc := "(III)I" } : Jvm.MethodName)) ∈ TB := tb 1333 (by decide +kernel) (by decide +kernel)
theorem wd1334 : (Jvm.Cond.instanceMethod ({ cls := "TelegramFeelingsModel", name := "words", desc := "(III)I" } : Jvm.MethodName)) ∈ TB := tb 1334 (by decide +kernel) (by decide +kernel)
theorem wd1335 : (Jvm.Cond.selects "TelegramFeelingsModel" ({ cls := "TelegramFeelingsModel", name := "words", desc := "(III)I" } : Jvm.MethodName) ({ cls := "TelegramFeelingsModel", name := "words", desc := "(III)I" } : Jvm.MethodName)) ∈ TB := tb 1335 (by decide +kernel) (by decide +kernel)
theorem wd1336 : (Jvm.Cond.code ({ cls := "TelegramFeelingsModel", name := "words", desc := "(III)I" } : Jvm.MethodName) prog_12_method_9_code (8 : Nat) (Option.some Jvm.ClassFile.FieldType.int)) ∈ TB := tb 1336 (by decide +kernel) (by decide +kernel)
theorem wd1337 : (Jvm.Cond.methodLink "TelegramFeelingsModel" (153 : Nat) ({ cls := "TelegramFeelingsModel", name := "isShelf", desc := "(I)Z" } : Jvm.MethodName)) ∈ TB := tb 1337 (by decide +kernel) (by decide +kernel)
theorem wd1338 : (Jvm.Cond.static ({ cls := "TelegramFeelingsModel", name := "isShelf", desc := "(I)Z" } : Jvm.MethodName)) ∈ TB := tb 1338 (by decide +kernel) (by decide +kernel)
theorem wd1339 : (Jvm.Cond.code ({ cls := "TelegramFeelingsModel", name := "isShelf", desc := "(I)Z" } : Jvm.MethodName) prog_12_method_105_code (1 : Nat) (Option.some Jvm.ClassFile.FieldType.boolean)) ∈ TB := tb 1339 (by decide +kernel) (by decide +kernel)
theorem wd1340 : (Jvm.Cond.constantLong "TelegramFeelingsModel" (157 : Nat) (2 : Int64)) ∈ TB := tb 1340 (by decide +kernel) (by decide +kernel)
theorem wd1341 : (Jvm.Cond.methodLink "TelegramFeelingsLaw" (27 : Nat) ({ cls := "TelegramFeelingsModel", name := "person", desc := "(I)I" } : Jvm.MethodName)) ∈ TB := tb 1341 (by decide +kernel) (by decide +kernel)
theorem wd1342 : (Jvm.Cond.instanceMethod ({ cls := "TelegramFeelingsModel", name := "person", desc := "(I)I" } : Jvm.MethodName)) ∈ TB := tb 1342 (by decide +kernel) (by decide +kernel)
theorem wd1343 : (Jvm.Cond.selects "TelegramFeelingsModel" ({ cls := "TelegramFeelingsModel", name := "person", desc := "(I)I" } : Jvm.MethodName) ({ cls := "TelegramFeelingsModel", name := "person", desc := "(I)I" } : Jvm.MethodName)) ∈ TB := tb 1343 (by decide +kernel) (by decide +kernel)
theorem wd1344 : (Jvm.Cond.code ({ cls := "TelegramFeelingsModel", name := "person", desc := "(I)I" } : Jvm.MethodName) prog_12_method_10_code (2 : Nat) (Option.some Jvm.ClassFile.FieldType.int)) ∈ TB := tb 1344 (by decide +kernel) (by decide +kernel)
theorem wd1345 : (Jvm.Cond.methodLink "TelegramFeelingsLaw" (131 : Nat) ({ cls := "TelegramFeelingsModel", name := "undo", desc := "()I" } : Jvm.MethodName)) ∈ TB := tb 1345 (by decide +kernel) (by decide +kernel)
theorem wd1346 : (Jvm.Cond.instanceMethod ({ cls := "TelegramFeelingsModel", name := "undo", desc := "()I" } : Jvm.MethodName)) ∈ TB := tb 1346 (by decide +kernel) (by decide +kernel)
theorem wd1347 : (Jvm.Cond.selects "TelegramFeelingsModel" ({ cls := "TelegramFeelingsModel", name := "undo", desc := "()I" } : Jvm.MethodName) ({ cls := "TelegramFeelingsModel", name := "undo", desc := "()I" } : Jvm.MethodName)) ∈ TB := tb 1347 (by decide +kernel) (by decide +kernel)
theorem wd1348 : (Jvm.Cond.code ({ cls := "TelegramFeelingsModel", name := "undo", desc := "()I" } : Jvm.MethodName) prog_12_method_14_code (1 : Nat) (Option.some Jvm.ClassFile.FieldType.int)) ∈ TB := tb 1348 (by decide +kernel) (by decide +kernel)
theorem wd1349 : (Jvm.Cond.methodLink "TelegramFeelingsModel" (169 : Nat) ({ cls := "TelegramFeelingsModel", name := "lays", desc := "(III)V" } : Jvm.MethodName)) ∈ TB := tb 1349 (by decide +kernel) (by decide +kernel)
theorem wd1351 : (Jvm.Cond.instanceMethod ({ cls := "TelegramFeelingsModel", name := "lays", desc := "(III)V" } : Jvm.MethodName)) ∈ TB := tb 1351 (by decide +kernel) (by decide +kernel)
theorem wd1352 : (Jvm.Cond.code ({ cls := "TelegramFeelingsModel", name := "lays", desc := "(III)V" } : Jvm.MethodName) prog_12_method_12_code (4 : Nat) (Option.none : Option Jvm.ClassFile.FieldType)) ∈ TB := tb 1352 (by decide +kernel) (by decide +kernel)
theorem wd1353 : (Jvm.Cond.methodLink "TelegramFeelingsLaw" (135 : Nat) ({ cls := "TelegramFeelingsModel", name := "redo", desc := "()I" } : Jvm.MethodName)) ∈ TB := tb 1353 (by decide +kernel) (by decide +kernel)
theorem wd1354 : (Jvm.Cond.instanceMethod ({ cls := "TelegramFeelingsModel", name := "redo", desc := "()I" } : Jvm.MethodName)) ∈ TB := tb 1354 (by decide +kernel) (by decide +kernel)
theorem wd1355 : (Jvm.Cond.selects "TelegramFeelingsModel" ({ cls := "TelegramFeelingsModel", name := "redo", desc := "()I" } : Jvm.MethodName) ({ cls := "TelegramFeelingsModel", name := "redo", desc := "()I" } : Jvm.MethodName)) ∈ TB := tb 1355 (by decide +kernel) (by decide +kernel)
theorem wd1356 : (Jvm.Cond.code ({ cls := "TelegramFeelingsModel", name := "redo", desc := "()I" } : Jvm.MethodName) prog_12_method_15_code (1 : Nat) (Option.some Jvm.ClassFile.FieldType.int)) ∈ TB := tb 1356 (by decide +kernel) (by decide +kernel)
theorem wd1357 : (Jvm.Cond.methodLink "TelegramFeelingsLaw" (31 : Nat) ({ cls := "TelegramFeelingsModel", name := "mend", desc := "(III)I" } : Jvm.MethodName)) ∈ TB := tb 1357 (by decide +kernel) (by decide +kernel)
theorem wd1358 : (Jvm.Cond.instanceMethod ({ cls := "TelegramFeelingsModel", name := "mend", desc := "(III)I" } : Jvm.MethodName)) ∈ TB := tb 1358 (by decide +kernel) (by decide +kernel)
theorem wd1359 : (Jvm.Cond.selects "TelegramFeelingsModel" ({ cls := "TelegramFeelingsModel", name := "mend", desc := "(III)I" } : Jvm.MethodName) ({ cls := "TelegramFeelingsModel", name := "mend", desc := "(III)I" } : Jvm.MethodName)) ∈ TB := tb 1359 (by decide +kernel) (by decide +kernel)
theorem wd1360 : (Jvm.Cond.code ({ cls := "TelegramFeelingsModel", name := "mend", desc := "(III)I" } : Jvm.MethodName) prog_12_method_18_code (4 : Nat) (Option.some Jvm.ClassFile.FieldType.int)) ∈ TB := tb 1360 (by decide +kernel) (by decide +kernel)
theorem wd1361 : (Jvm.Cond.methodLink "TelegramFeelingsModel" (179 : Nat) ({ cls := "TelegramFeelingsModel", name := "isOne", desc := "(II)Z" } : Jvm.MethodName)) ∈ TB := tb 1361 (by decide +kernel) (by decide +kernel)
theorem wd1363 : (Jvm.Cond.instanceMethod ({ cls := "TelegramFeelingsModel", name := "isOne", desc := "(II)Z" } : Jvm.MethodName)) ∈ TB := tb 1363 (by decide +kernel) (by decide +kernel)
theorem wd1364 : (Jvm.Cond.code ({ cls := "TelegramFeelingsModel", name := "isOne", desc := "(II)Z" } : Jvm.MethodName) prog_12_method_16_code (3 : Nat) (Option.some Jvm.ClassFile.FieldType.boolean)) ∈ TB := tb 1364 (by decide +kernel) (by decide +kernel)
theorem wd1365 : (Jvm.Cond.methodLink "TelegramFeelingsModel" (173 : Nat) ({ cls := "TelegramFeelingsModel", name := "isWord", desc := "(I)Z" } : Jvm.MethodName)) ∈ TB := tb 1365 (by decide +kernel) (by decide +kernel)
theorem wd1367 : (Jvm.Cond.instanceMethod ({ cls := "TelegramFeelingsModel", name := "isWord", desc := "(I)Z" } : Jvm.MethodName)) ∈ TB := tb 1367 (by decide +kernel) (by decide +kernel)
theorem wd1368 : (Jvm.Cond.code ({ cls := "TelegramFeelingsModel", name := "isWord", desc := "(I)Z" } : Jvm.MethodName) prog_12_method_5_code (2 : Nat) (Option.some Jvm.ClassFile.FieldType.boolean)) ∈ TB := tb 1368 (by decide +kernel) (by decide +kernel)
theorem wd1369 : (Jvm.Cond.methodLink "TelegramFeelingsModel" (176 : Nat) ({ cls := "TelegramFeelingsModel", name := "isPerson", desc := "(I)Z" } : Jvm.MethodName)) ∈ TB := tb 1369 (by decide +kernel) (by decide +kernel)
theorem wd1371 : (Jvm.Cond.instanceMethod ({ cls := "TelegramFeelingsModel", name := "isPerson", desc := "(I)Z" } : Jvm.MethodName)) ∈ TB := tb 1371 (by decide +kernel) (by decide +kernel)
theorem wd1372 : (Jvm.Cond.code ({ cls := "TelegramFeelingsModel", name := "isPerson", desc := "(I)Z" } : Jvm.MethodName) prog_12_method_6_code (2 : Nat) (Option.some Jvm.ClassFile.FieldType.boolean)) ∈ TB := tb 1372 (by decide +kernel) (by decide +kernel)
theorem wd1373 : (Jvm.Cond.methodLink "TelegramFeelingsModel" (183 : Nat) ({ cls := "TelegramFeelingsModel", name := "mayHave", desc := "(II)Z" } : Jvm.MethodName)) ∈ TB := tb 1373 (by decide +kernel) (by decide +kernel)
theorem wd1375 : (Jvm.Cond.instanceMethod ({ cls := "TelegramFeelingsModel", name := "mayHave", desc := "(II)Z" } : Jvm.MethodName)) ∈ TB := tb 1375 (by decide +kernel) (by decide +kernel)
theorem wd1376 : (Jvm.Cond.code ({ cls := "TelegramFeelingsModel", name := "mayHave", desc := "(II)Z" } : Jvm.MethodName) prog_12_method_17_code (3 : Nat) (Option.some Jvm.ClassFile.FieldType.boolean)) ∈ TB := tb 1376 (by decide +kernel) (by decide +kernel)
theorem wd1377 : (Jvm.Cond.methodLink "TelegramFeelingsModel" (186 : Nat) ({ cls := "TelegramFeelingsModel", name := "changes", desc := "(III)I" } : Jvm.MethodName)) ∈ TB := tb 1377 (by decide +kernel) (by decide +kernel)
theorem wd1379 : (Jvm.Cond.instanceMethod ({ cls := "TelegramFeelingsModel", name := "changes", desc := "(III)I" } : Jvm.MethodName)) ∈ TB := tb 1379 (by decide +kernel) (by decide +kernel)
theorem wd1380 : (Jvm.Cond.code ({ cls := "TelegramFeelingsModel", name := "changes", desc := "(III)I" } : Jvm.MethodName) prog_12_method_13_code (6 : Nat) (Option.some Jvm.ClassFile.FieldType.int)) ∈ TB := tb 1380 (by decide +kernel) (by decide +kernel)
theorem wd1381 : (Jvm.Cond.methodLink "TelegramFeelingsModel" (159 : Nat) ({ cls := "TelegramFeelingsModel", name := "valueAt", desc := "(II)I" } : Jvm.MethodName)) ∈ TB := tb 1381 (by decide +kernel) (by decide +kernel)
theorem wd1383 : (Jvm.Cond.instanceMethod ({ cls := "TelegramFeelingsModel", name := "valueAt", desc := "(II)I" } : Jvm.MethodName)) ∈ TB := tb 1383 (by decide +kernel) (by decide +kernel)
theorem wd1384 : (Jvm.Cond.code ({ cls := "TelegramFeelingsModel", name := "valueAt", desc := "(II)I" } : Jvm.MethodName) prog_12_method_11_code (3 : Nat) (Option.some Jvm.ClassFile.FieldType.int)) ∈ TB := tb 1384 (by decide +kernel) (by decide +kernel)
theorem wd1385 : (Jvm.Cond.methodLink "TelegramFeelingsLaw" (35 : Nat) ({ cls := "TelegramFeelingsModel", name := "of", desc := "(II)I" } : Jvm.MethodName)) ∈ TB := tb 1385 (by decide +kernel) (by decide +kernel)
theorem wd1386 : (Jvm.Cond.instanceMethod ({ cls := "TelegramFeelingsModel", name := "of", desc := "(II)I" } : Jvm.MethodName)) ∈ TB := tb 1386 (by decide +kernel) (by decide +kernel)
theorem wd1387 : (Jvm.Cond.selects "TelegramFeelingsModel" ({ cls := "TelegramFeelingsModel", name := "of", desc := "(II)I" } : Jvm.MethodName) ({ cls := "TelegramFeelingsModel", name := "of", desc := "(II)I" } : Jvm.MethodName)) ∈ TB := tb 1387 (by decide +kernel) (by decide +kernel)
theorem wd1388 : (Jvm.Cond.code ({ cls := "TelegramFeelingsModel", name := "of", desc := "(II)I" } : Jvm.MethodName) prog_12_method_19_code (3 : Nat) (Option.some Jvm.ClassFile.FieldType.int)) ∈ TB := tb 1388 (by decide +kernel) (by decide +kernel)
theorem wd1389 : (Jvm.Cond.methodLink "TelegramFeelingsLaw" (39 : Nat) ({ cls := "TelegramFeelingsModel", name := "feed", desc := "(I)I" } : Jvm.MethodName)) ∈ TB := tb 1389 (by decide +kernel) (by decide +kernel)
theorem wd1390 : (Jvm.Cond.instanceMethod ({ cls := "TelegramFeelingsModel", name := "feed", desc := "(I)I" } : Jvm.MethodName)) ∈ TB := tb 1390 (by decide +kernel) (by decide +kernel)
theorem wd1391 : (Jvm.Cond.selects "TelegramFeelingsModel" ({ cls := "TelegramFeelingsModel", name := "feed", desc := "(I)I" } : Jvm.MethodName) ({ cls := "TelegramFeelingsModel", name := "feed", desc := "(I)I" } : Jvm.MethodName)) ∈ TB := tb 1391 (by decide +kernel) (by decide +kernel)
theorem wd1392 : (Jvm.Cond.code ({ cls := "TelegramFeelingsModel", name := "feed", desc := "(I)I" } : Jvm.MethodName) prog_12_method_20_code (2 : Nat) (Option.some Jvm.ClassFile.FieldType.int)) ∈ TB := tb 1392 (by decide +kernel) (by decide +kernel)
theorem wd1393 : (Jvm.Cond.methodLink "TelegramFeelingsLaw" (44 : Nat) ({ cls := "TelegramFeelingsModel", name := "law", desc := "()I" } : Jvm.MethodName)) ∈ TB := tb 1393 (by decide +kernel) (by decide +kernel)
theorem wd1394 : (Jvm.Cond.instanceMethod ({ cls := "TelegramFeelingsModel", name := "law", desc := "()I" } : Jvm.MethodName)) ∈ TB := tb 1394 (by decide +kernel) (by decide +kernel)
theorem wd1395 : (Jvm.Cond.selects "TelegramFeelingsModel" ({ cls := "TelegramFeelingsModel", name := "law", desc := "()I" } : Jvm.MethodName) ({ cls := "TelegramFeelingsModel", name := "law", desc := "()I" } : Jvm.MethodName)) ∈ TB := tb 1395 (by decide +kernel) (by decide +kernel)
theorem wd1396 : (Jvm.Cond.code ({ cls := "TelegramFeelingsModel", name := "law", desc := "()I" } : Jvm.MethodName) prog_12_method_38_code (2 : Nat) (Option.some Jvm.ClassFile.FieldType.int)) ∈ TB := tb 1396 (by decide +kernel) (by decide +kernel)
theorem wd1397 : (Jvm.Cond.methodLink "TelegramFeelingsModel" (253 : Nat) ({ cls := "TelegramFeelingsModel", name := "readText", desc := "(I)I" } : Jvm.MethodName)) ∈ TB := tb 1397 (by decide +kernel) (by decide +kernel)
theorem wd1399 : (Jvm.Cond.instanceMethod ({ cls := "TelegramFeelingsModel", name := "readText", desc := "(I)I" } : Jvm.MethodName)) ∈ TB := tb 1399 (by decide +kernel) (by decide +kernel)
theorem wd1400 : (Jvm.Cond.code ({ cls := "TelegramFeelingsModel", name := "readText", desc := "(I)I" } : Jvm.MethodName) prog_12_method_34_code (3 : Nat) (Option.some Jvm.ClassFile.FieldType.int)) ∈ TB := tb 1400 (by decide +kernel) (by decide +kernel)
theorem wd1401 : (Jvm.Cond.methodLink "TelegramFeelingsModel" (244 : Nat) ({ cls := "TelegramFeelingsModel", name := "line", desc := "()V" } : Jvm.MethodName)) ∈ TB := tb 1401 (by decide +kernel) (by decide +kernel)
theorem wd1403 : (Jvm.Cond.instanceMethod ({ cls := "TelegramFeelingsModel", name := "line", desc := "()V" } : Jvm.MethodName)) ∈ TB := tb 1403 (by decide +kernel) (by decide +kernel)
theorem wd1404 : (Jvm.Cond.code ({ cls := "TelegramFeelingsModel", name := "line", desc := "()V" } : Jvm.MethodName) prog_12_method_33_code (2 : Nat) (Option.none : Option Jvm.ClassFile.FieldType)) ∈ TB := tb 1404 (by decide +kernel) (by decide +kernel)
theorem wd1405 : (Jvm.Cond.methodLink "TelegramFeelingsModel" (226 : Nat) ({ cls := "TelegramFeelingsModel", name := "either", desc := "()V" } : Jvm.MethodName)) ∈ TB := tb 1405 (by decide +kernel) (by decide +kernel)
theorem wd1407 : (Jvm.Cond.instanceMethod ({ cls := "TelegramFeelingsModel", name := "either", desc := "()V" } : Jvm.MethodName)) ∈ TB := tb 1407 (by decide +kernel) (by decide +kernel)
theorem wd1408 : (Jvm.Cond.code ({ cls := "TelegramFeelingsModel", name := "either", desc := "()V" } : Jvm.MethodName) prog_12_method_32_code (1 : Nat) (Option.none : Option Jvm.ClassFile.FieldType)) ∈ TB := tb 1408 (by decide +kernel) (by decide +kernel)
theorem wd1409 : (Jvm.Cond.methodLink "TelegramFeelingsModel" (241 : Nat) ({ cls := "TelegramFeelingsModel", name := "both", desc := "()V" } : Jvm.MethodName)) ∈ TB := tb 1409 (by decide +kernel) (by decide +kernel)
theorem wd1411 : (Jvm.Cond.instanceMethod ({ cls := "TelegramFeelingsModel", name := "both", desc := "()V" } : Jvm.MethodName)) ∈ TB := tb 1411 (by decide +kernel) (by decide +kernel)
theorem wd1412 : (Jvm.Cond.code ({ cls := "TelegramFeelingsModel", name := "both", desc := "()V" } : Jvm.MethodName) prog_12_method_31_code (1 : Nat) (Option.none : Option Jvm.ClassFile.FieldType)) ∈ TB := tb 1412 (by decide +kernel) (by decide +kernel)
theorem wd1413 : (Jvm.Cond.methodLink "TelegramFeelingsModel" (238 : Nat) ({ cls := "TelegramFeelingsModel", name := "compared", desc := "()V" } : Jvm.MethodName)) ∈ TB := tb 1413 (by decide +kernel) (by decide +kernel)
theorem wd1415 : (Jvm.Cond.instanceMethod ({ cls := "TelegramFeelingsModel", name := "compared", desc := "()V" } : Jvm.MethodName)) ∈ TB := tb 1415 (by decide +kernel) (by decide +kernel)
theorem wd1416 : (Jvm.Cond.code ({ cls := "TelegramFeelingsModel", name := "compared", desc := "()V" } : Jvm.MethodName) prog_12_method_30_code (2 : Nat) (Option.none : Option Jvm.ClassFile.FieldType)) ∈ TB := tb 1416 (by decide +kernel) (by decide +kernel)
theorem wd1417 : (Jvm.Cond.methodLink "TelegramFeelingsModel" (235 : Nat) ({ cls := "TelegramFeelingsModel", name := "sum", desc := "()V" } : Jvm.MethodName)) ∈ TB := tb 1417 (by decide +kernel) (by decide +kernel)
theorem wd1419 : (Jvm.Cond.instanceMethod ({ cls := "TelegramFeelingsModel", name := "sum", desc := "()V" } : Jvm.MethodName)) ∈ TB := tb 1419 (by decide +kernel) (by decide +kernel)
theorem wd1420 : (Jvm.Cond.code ({ cls := "TelegramFeelingsModel", name := "sum", desc := "()V" } : Jvm.MethodName) prog_12_method_29_code (2 : Nat) (Option.none : Option Jvm.ClassFile.FieldType)) ∈ TB := tb 1420 (by decide +kernel) (by decide +kernel)
theorem wd1421 : (Jvm.Cond.methodLink "TelegramFeelingsModel" (232 : Nat) ({ cls := "TelegramFeelingsModel", name := "product", desc := "()V" } : Jvm.MethodName)) ∈ TB := tb 1421 (by decide +kernel) (by decide +kernel)
theorem wd1423 : (Jvm.Cond.instanceMethod ({ cls := "TelegramFeelingsModel", name := "product", desc := "()V" } : Jvm.MethodName)) ∈ TB := tb 1423 (by decide +kernel) (by decide +kernel)
theorem wd1424 : (Jvm.Cond.code ({ cls := "TelegramFeelingsModel", name := "product", desc := "()V" } : Jvm.MethodName) prog_12_method_28_code (2 : Nat) (Option.none : Option Jvm.ClassFile.FieldType)) ∈ TB := tb 1424 (by decide +kernel) (by decide +kernel)
theorem wd1425 : (Jvm.Cond.methodLink "TelegramFeelingsModel" (223 : Nat) ({ cls := "TelegramFeelingsModel", name := "operand", desc := "()V" } : Jvm.MethodName)) ∈ TB := tb 1425 (by decide +kernel) (by decide +kernel)
theorem wd1427 : (Jvm.Cond.instanceMethod ({ cls := "TelegramFeelingsModel", name := "operand", desc := "()V" } : Jvm.MethodName)) ∈ TB := tb 1427 (by decide +kernel) (by decide +kernel)
theorem wd1428 : (Jvm.Cond.code ({ cls := "TelegramFeelingsModel", name := "operand", desc := "()V" } : Jvm.MethodName) prog_12_method_27_code (2 : Nat) (Option.none : Option Jvm.ClassFile.FieldType)) ∈ TB := tb 1428 (by decide +kernel) (by decide +kernel)
theorem wd1429 : (Jvm.Cond.methodLink "TelegramFeelingsModel" (207 : Nat) ({ cls := "TelegramFeelingsModel", name := "look", desc := "()I" } : Jvm.MethodName)) ∈ TB := tb 1429 (by decide +kernel) (by decide +kernel)
theorem wd1431 : (Jvm.Cond.instanceMethod ({ cls := "TelegramFeelingsModel", name := "look", desc := "()I" } : Jvm.MethodName)) ∈ TB := tb 1431 (by decide +kernel) (by decide +kernel)
theorem wd1432 : (Jvm.Cond.code ({ cls := "TelegramFeelingsModel", name := "look", desc := "()I" } : Jvm.MethodName) prog_12_method_21_code (1 : Nat) (Option.some Jvm.ClassFile.FieldType.int)) ∈ TB := tb 1432 (by decide +kernel) (by decide +kernel)
theorem wd1433 : (Jvm.Cond.methodLink "TelegramFeelingsModel" (215 : Nat) ({ cls := "TelegramFeelingsModel", name := "nameOf", desc := "(I)I" } : Jvm.MethodName)) ∈ TB := tb 1433 (by decide +kernel) (by decide +kernel)
theorem wd1434 : (Jvm.Cond.static ({ cls := "TelegramFeelingsModel", name := "nameOf", desc := "(I)I" } : Jvm.MethodName)) ∈ TB := tb 1434 (by decide +kernel) (by decide +kernel)
theorem wd1435 : (Jvm.Cond.code ({ cls := "TelegramFeelingsModel", name := "nameOf", desc := "(I)I" } : Jvm.MethodName) prog_12_method_24_code (1 : Nat) (Option.some Jvm.ClassFile.FieldType.int)) ∈ TB := tb 1435 (by decide +kernel) (by decide +kernel)
theorem wd1436 : (Jvm.Cond.methodLink "TelegramFeelingsModel" (211 : Nat) ({ cls := "TelegramFeelingsModel", name := "addStep", desc := "(II)V" } : Jvm.MethodName)) ∈ TB := tb 1436 (by decide +kernel) (by decide +kernel)
theorem wd1438 : (Jvm.Cond.instanceMethod ({ cls := "TelegramFeelingsModel", name := "addStep", desc := "(II)V" } : Jvm.MethodName)) ∈ TB := tb 1438 (by decide +kernel) (by decide +kernel)
theorem wd1439 : (Jvm.Cond.code ({ cls := "TelegramFeelingsModel", name := "addStep", desc := "(II)V" } : Jvm.MethodName) prog_12_method_23_code (3 : Nat) (Option.none : Option Jvm.ClassFile.FieldType)) ∈ TB := tb 1439 (by decide +kernel) (by decide +kernel)
theorem wd1440 : (Jvm.Cond.methodLink "TelegramFeelingsModel" (219 : Nat) ({ cls := "TelegramFeelingsModel", name := "opens", desc := "()Z" } : Jvm.MethodName)) ∈ TB := tb 1440 (by decide +kernel) (by decide +kernel)
theorem wd1442 : (Jvm.Cond.instanceMethod ({ cls := "TelegramFeelingsModel", name := "opens", desc := "()Z" } : Jvm.MethodName)) ∈ TB := tb 1442 (by decide +kernel) (by decide +kernel)
theorem wd1443 : (Jvm.Cond.code ({ cls := "TelegramFeelingsModel", name := "opens", desc := "()Z" } : Jvm.MethodName) prog_12_method_25_code (1 : Nat) (Option.some Jvm.ClassFile.FieldType.boolean)) ∈ TB := tb 1443 (by decide +kernel) (by decide +kernel)
theorem wd1444 : (Jvm.Cond.methodLink "TelegramFeelingsModel" (204 : Nat) ({ cls := "TelegramFeelingsModel", name := "wrong", desc := "()V" } : Jvm.MethodName)) ∈ TB := tb 1444 (by decide +kernel) (by decide +kernel)
theorem wd1446 : (Jvm.Cond.instanceMethod ({ cls := "TelegramFeelingsModel", name := "wrong", desc := "()V" } : Jvm.MethodName)) ∈ TB := tb 1446 (by decide +kernel) (by decide +kernel)
theorem wd1447 : (Jvm.Cond.code ({ cls := "TelegramFeelingsModel", name := "wrong", desc := "()V" } : Jvm.MethodName) prog_12_method_22_code (1 : Nat) (Option.none : Option Jvm.ClassFile.FieldType)) ∈ TB := tb 1447 (by decide +kernel) (by decide +kernel)
theorem wd1448 : (Jvm.Cond.methodLink "TelegramFeelingsModel" (229 : Nat) ({ cls := "TelegramFeelingsModel", name := "figure", desc := "()V" } : Jvm.MethodName)) ∈ TB := tb 1448 (by decide +kernel) (by decide +kernel)
theorem wd1450 : (Jvm.Cond.instanceMethod ({ cls := "TelegramFeelingsModel", name := "figure", desc := "()V" } : Jvm.MethodName)) ∈ TB := tb 1450 (by decide +kernel) (by decide +kernel)
theorem wd1451 : (Jvm.Cond.code ({ cls := "TelegramFeelingsModel", name := "figure", desc := "()V" } : Jvm.MethodName) prog_12_method_26_code (3 : Nat) (Option.none : Option Jvm.ClassFile.FieldType)) ∈ TB := tb 1451 (by decide +kernel) (by decide +kernel)
theorem wd1452 : (Jvm.Cond.methodLink "TelegramFeelingsLaw" (48 : Nat) ({ cls := "TelegramFeelingsModel", name := "price", desc := "(II)I" } : Jvm.MethodName)) ∈ TB := tb 1452 (by decide +kernel) (by decide +kernel)
theorem wd1453 : (Jvm.Cond.instanceMethod ({ cls := "TelegramFeelingsModel", name := "price", desc := "(II)I" } : Jvm.MethodName)) ∈ TB := tb 1453 (by decide +kernel) (by decide +kernel)
theorem wd1454 : (Jvm.Cond.selects "TelegramFeelingsModel" ({ cls := "TelegramFeelingsModel", name := "price", desc := "(II)I" } : Jvm.MethodName) ({ cls := "TelegramFeelingsModel", name := "price", desc := "(II)I" } : Jvm.MethodName)) ∈ TB := tb 1454 (by decide +kernel) (by decide +kernel)
theorem wd1455 : (Jvm.Cond.code ({ cls := "TelegramFeelingsModel", name := "price", desc := "(II)I" } : Jvm.MethodName) prog_12_method_40_code (3 : Nat) (Option.some Jvm.ClassFile.FieldType.int)) ∈ TB := tb 1455 (by decide +kernel) (by decide +kernel)
theorem wd1456 : (Jvm.Cond.methodLink "TelegramFeelingsModel" (263 : Nat) ({ cls := "TelegramFeelingsModel", name := "priceIn", desc := "(III)I" } : Jvm.MethodName)) ∈ TB := tb 1456 (by decide +kernel) (by decide +kernel)
theorem wd1458 : (Jvm.Cond.instanceMethod ({ cls := "TelegramFeelingsModel", name := "priceIn", desc := "(III)I" } : Jvm.MethodName)) ∈ TB := tb 1458 (by decide +kernel) (by decide +kernel)
theorem wd1459 : (Jvm.Cond.code ({ cls := "TelegramFeelingsModel", name := "priceIn", desc := "(III)I" } : Jvm.MethodName) prog_12_method_39_code (5 : Nat) (Option.some Jvm.ClassFile.FieldType.int)) ∈ TB := tb 1459 (by decide +kernel) (by decide +kernel)
theorem wd1460 : (Jvm.Cond.methodLink "TelegramFeelingsModel" (260 : Nat) ({ cls := "TelegramFeelingsModel", name := "gives", desc := "(I)I" } : Jvm.MethodName)) ∈ TB := tb 1460 (by decide +kernel) (by decide +kernel)
theorem wd1462 : (Jvm.Cond.instanceMethod ({ cls := "TelegramFeelingsModel", name := "gives", desc := "(I)I" } : Jvm.MethodName)) ∈ TB := tb 1462 (by decide +kernel) (by decide +kernel)
theorem wd1463 : (Jvm.Cond.code ({ cls := "TelegramFeelingsModel", name := "gives", desc := "(I)I" } : Jvm.MethodName) prog_12_method_37_code (4 : Nat) (Option.some Jvm.ClassFile.FieldType.int)) ∈ TB := tb 1463 (by decide +kernel) (by decide +kernel)
theorem wd1464 : (Jvm.Cond.methodLink "TelegramFeelingsModel" (250 : Nat) ({ cls := "TelegramFeelingsModel", name := "worked", desc := "(III)I" } : Jvm.MethodName)) ∈ TB := tb 1464 (by decide +kernel) (by decide +kernel)
theorem wd1466 : (Jvm.Cond.instanceMethod ({ cls := "TelegramFeelingsModel", name := "worked", desc := "(III)I" } : Jvm.MethodName)) ∈ TB := tb 1466 (by decide +kernel) (by decide +kernel)
theorem wd1467 : (Jvm.Cond.code ({ cls := "TelegramFeelingsModel", name := "worked", desc := "(III)I" } : Jvm.MethodName) prog_12_method_36_code (7 : Nat) (Option.some Jvm.ClassFile.FieldType.int)) ∈ TB := tb 1467 (by decide +kernel) (by decide +kernel)
theorem wd1468 : (Jvm.Cond.methodLink "TelegramFeelingsModel" (247 : Nat) ({ cls := "TelegramFeelingsModel", name := "twoOf", desc := "(III)I" } : Jvm.MethodName)) ∈ TB := tb 1468 (by decide +kernel) (by decide +kernel)
theorem wd1469 : (Jvm.Cond.static ({ cls := "TelegramFeelingsModel", name := "twoOf", desc := "(III)I" } : Jvm.MethodName)) ∈ TB := tb 1469 (by decide +kernel) (by decide +kernel)
theorem wd1470 : (Jvm.Cond.code ({ cls := "TelegramFeelingsModel", name := "twoOf", desc := "(III)I" } : Jvm.MethodName) prog_12_method_35_code (3 : Nat) (Option.some Jvm.ClassFile.FieldType.int)) ∈ TB := tb 1470 (by decide +kernel) (by decide +kernel)
theorem wd1471 : (Jvm.Cond.methodLink "TelegramFeelingsLaw" (52 : Nat) ({ cls := "TelegramFeelingsModel", name := "wire", desc := "(II)I" } : Jvm.MethodName)) ∈ TB := tb 1471 (by decide +kernel) (by decide +kernel)
theorem wd1472 : (Jvm.Cond.instanceMethod ({ cls := "TelegramFeelingsModel", name := "wire", desc := "(II)I" } : Jvm.MethodName)) ∈ TB := tb 1472 (by decide +kernel) (by decide +kernel)
theorem wd1473 : (Jvm.Cond.selects "TelegramFeelingsModel" ({ cls := "TelegramFeelingsModel", name := "wire", desc := "(II)I" } : Jvm.MethodName) ({ cls := "TelegramFeelingsModel", name := "wire", desc := "(II)I" } : Jvm.MethodName)) ∈ TB := tb 1473 (by decide +kernel) (by decide +kernel)
theorem wd1474 : (Jvm.Cond.code ({ cls := "TelegramFeelingsModel", name := "wire", desc := "(II)I" } : Jvm.MethodName) prog_12_method_51_code (4 : Nat) (Option.some Jvm.ClassFile.FieldType.int)) ∈ TB := tb 1474 (by decide +kernel) (by decide +kernel)
theorem wd1475 : (Jvm.Cond.methodLink "TelegramFeelingsModel" (282 : Nat) ({ cls := "TelegramFeelingsModel", name := "rowFault", desc := "(II)I" } : Jvm.MethodName)) ∈ TB := tb 1475 (by decide +kernel) (by decide +kernel)
theorem wd1477 : (Jvm.Cond.instanceMethod ({ cls := "TelegramFeelingsModel", name := "rowFault", desc := "(II)I" } : Jvm.MethodName)) ∈ TB := tb 1477 (by decide +kernel) (by decide +kernel)
theorem wd1478 : (Jvm.Cond.code ({ cls := "TelegramFeelingsModel", name := "rowFault", desc := "(II)I" } : Jvm.MethodName) prog_12_method_41_code (3 : Nat) (Option.some Jvm.ClassFile.FieldType.int)) ∈ TB := tb 1478 (by decide +kernel) (by decide +kernel)
theorem wd1479 : (Jvm.Cond.methodLink "TelegramFeelingsModel" (285 : Nat) ({ cls := "TelegramFeelingsModel", name := "layWired", desc := "(I)V" } : Jvm.MethodName)) ∈ TB := tb 1479 (by decide +kernel) (by decide +kernel)
theorem wd1481 : (Jvm.Cond.instanceMethod ({ cls := "TelegramFeelingsModel", name := "layWired", desc := "(I)V" } : Jvm.MethodName)) ∈ TB := tb 1481 (by decide +kernel) (by decide +kernel)
theorem wd1482 : (Jvm.Cond.code ({ cls := "TelegramFeelingsModel", name := "layWired", desc := "(I)V" } : Jvm.MethodName) prog_12_method_43_code (2 : Nat) (Option.none : Option Jvm.ClassFile.FieldType)) ∈ TB := tb 1482 (by decide +kernel) (by decide +kernel)
theorem wd1483 : (Jvm.Cond.methodLink "TelegramFeelingsModel" (269 : Nat) ({ cls := "TelegramFeelingsModel", name := "at", desc := "(II)I" } : Jvm.MethodName)) ∈ TB := tb 1483 (by decide +kernel) (by decide +kernel)
theorem wd1485 : (Jvm.Cond.instanceMethod ({ cls := "TelegramFeelingsModel", name := "at", desc := "(II)I" } : Jvm.MethodName)) ∈ TB := tb 1485 (by decide +kernel) (by decide +kernel)
theorem wd1486 : (Jvm.Cond.code ({ cls := "TelegramFeelingsModel", name := "at", desc := "(II)I" } : Jvm.MethodName) prog_12_method_42_code (3 : Nat) (Option.some Jvm.ClassFile.FieldType.int)) ∈ TB := tb 1486 (by decide +kernel) (by decide +kernel)
theorem wd1487 : (Jvm.Cond.methodLink "TelegramFeelingsModel" (289 : Nat) ({ cls := "TelegramFeelingsModel", name := "findJoined", desc := "()V" } : Jvm.MethodName)) ∈ TB := tb 1487 (by decide +kernel) (by decide +kernel)
theorem wd1489 : (Jvm.Cond.instanceMethod ({ cls := "TelegramFeelingsModel", name := "findJoined", desc := "()V" } : Jvm.MethodName)) ∈ TB := tb 1489 (by decide +kernel) (by decide +kernel)
theorem wd1490 : (Jvm.Cond.code ({ cls := "TelegramFeelingsModel", name := "findJoined", desc := "()V" } : Jvm.MethodName) prog_12_method_50_code (7 : Nat) (Option.none : Option Jvm.ClassFile.FieldType)) ∈ TB := tb 1490 (by decide +kernel) (by decide +kernel)
theorem wd1491 : (Jvm.Cond.constant "TelegramFeelingsModel" (281 : Nat) (9999999 : Int32)) ∈ TB := tb 1491 (by decide +kernel) (by decide +kernel)
theorem wd1492 : (Jvm.Cond.methodLink "TelegramFeelingsModel" (275 : Nat) ({ cls := "TelegramFeelingsModel", name := "priceAt", desc := "(I)I" } : Jvm.MethodName)) ∈ TB := tb 1492 (by decide +kernel) (by decide +kernel)
theorem wd1494 : (Jvm.Cond.instanceMethod ({ cls := "TelegramFeelingsModel", name := "priceAt", desc := "(I)I" } : Jvm.MethodName)) ∈ TB := tb 1494 (by decide +kernel) (by decide +kernel)
theorem wd1495 : (Jvm.Cond.code ({ cls := "TelegramFeelingsModel", name := "priceAt", desc := "(I)I" } : Jvm.MethodName) prog_12_method_45_code (2 : Nat) (Option.some Jvm.ClassFile.FieldType.int)) ∈ TB := tb 1495 (by decide +kernel) (by decide +kernel)
theorem wd1496 : (Jvm.Cond.methodLink "TelegramFeelingsModel" (272 : Nat) ({ cls := "TelegramFeelingsModel", name := "aheadOf", desc := "(I)I" } : Jvm.MethodName)) ∈ TB := tb 1496 (by decide +kernel) (by decide +kernel)
theorem wd1498 : (Jvm.Cond.instanceMethod ({ cls := "TelegramFeelingsModel", name := "aheadOf", desc := "(I)I" } : Jvm.MethodName)) ∈ TB := tb 1498 (by decide +kernel) (by decide +kernel)
theorem wd1499 : (Jvm.Cond.code ({ cls := "TelegramFeelingsModel", name := "aheadOf", desc := "(I)I" } : Jvm.MethodName) prog_12_method_44_code (2 : Nat) (Option.some Jvm.ClassFile.FieldType.int)) ∈ TB := tb 1499 (by decide +kernel) (by decide +kernel)
theorem wd1500 : (Jvm.Cond.methodLink "TelegramFeelingsModel" (292 : Nat) ({ cls := "TelegramFeelingsModel", name := "priceAll", desc := "()I" } : Jvm.MethodName)) ∈ TB := tb 1500 (by decide +kernel) (by decide +kernel)
theorem wd1502 : (Jvm.Cond.instanceMethod ({ cls := "TelegramFeelingsModel", name := "priceAll", desc := "()I" } : Jvm.MethodName)) ∈ TB := tb 1502 (by decide +kernel) (by decide +kernel)
theorem wd1503 : (Jvm.Cond.code ({ cls := "TelegramFeelingsModel", name := "priceAll", desc := "()I" } : Jvm.MethodName) prog_12_method_46_code (3 : Nat) (Option.some Jvm.ClassFile.FieldType.int)) ∈ TB := tb 1503 (by decide +kernel) (by decide +kernel)
theorem wd1504 : (Jvm.Cond.methodLink "TelegramFeelingsModel" (295 : Nat) ({ cls := "TelegramFeelingsModel", name := "senseAll", desc := "()I" } : Jvm.MethodName)) ∈ TB := tb 1504 (by decide +kernel) (by decide +kernel)
theorem wd1506 : (Jvm.Cond.instanceMethod ({ cls := "TelegramFeelingsModel", name := "senseAll", desc := "()I" } : Jvm.MethodName)) ∈ TB := tb 1506 (by decide +kernel) (by decide +kernel)
theorem wd1507 : (Jvm.Cond.code ({ cls := "TelegramFeelingsModel", name := "senseAll", desc := "()I" } : Jvm.MethodName) prog_12_method_47_code (3 : Nat) (Option.some Jvm.ClassFile.FieldType.int)) ∈ TB := tb 1507 (by decide +kernel) (by decide +kernel)
theorem wd1508 : (Jvm.Cond.methodLink "TelegramFeelingsModel" (298 : Nat) ({ cls := "TelegramFeelingsModel", name := "isRight", desc := "()Z" } : Jvm.MethodName)) ∈ TB := tb 1508 (by decide +kernel) (by decide +kernel)
theorem wd1510 : (Jvm.Cond.instanceMethod ({ cls := "TelegramFeelingsModel", name := "isRight", desc := "()Z" } : Jvm.MethodName)) ∈ TB := tb 1510 (by decide +kernel) (by decide +kernel)
theorem wd1511 : (Jvm.Cond.code ({ cls := "TelegramFeelingsModel", name := "isRight", desc := "()Z" } : Jvm.MethodName) prog_12_method_49_code (3 : Nat) (Option.some Jvm.ClassFile.FieldType.boolean)) ∈ TB := tb 1511 (by decide +kernel) (by decide +kernel)
theorem wd1512 : (Jvm.Cond.methodLink "TelegramFeelingsModel" (278 : Nat) ({ cls := "TelegramFeelingsModel", name := "mayStand", desc := "(II)Z" } : Jvm.MethodName)) ∈ TB := tb 1512 (by decide +kernel) (by decide +kernel)
theorem wd1513 : (Jvm.Cond.static ({ cls := "TelegramFeelingsModel", name := "mayStand", desc := "(II)Z" } : Jvm.MethodName)) ∈ TB := tb 1513 (by decide +kernel) (by decide +kernel)
theorem wd1514 : (Jvm.Cond.code ({ cls := "TelegramFeelingsModel", name := "mayStand", desc := "(II)Z" } : Jvm.MethodName) prog_12_method_48_code (2 : Nat) (Option.some Jvm.ClassFile.FieldType.boolean)) ∈ TB := tb 1514 (by decide +kernel) (by decide +kernel)
theorem wd1515 : (Jvm.Cond.methodLink "TelegramFeelingsLaw" (56 : Nat) ({ cls := "TelegramFeelingsModel", name := "say", desc := "(II)I" } : Jvm.MethodName)) ∈ TB := tb 1515 (by decide +kernel) (by decide +kernel)
theorem wd1516 : (Jvm.Cond.instanceMethod ({ cls := "TelegramFeelingsModel", name := "say", desc := "(II)I" } : Jvm.MethodName)) ∈ TB := tb 1516 (by decide +kernel) (by decide +kernel)
theorem wd1517 : (Jvm.Cond.selects "TelegramFeelingsModel" ({ cls := "TelegramFeelingsModel", name := "say", desc := "(II)I" } : Jvm.MethodName) ({ cls := "TelegramFeelingsModel", name := "say", desc := "(II)I" } : Jvm.MethodName)) ∈ TB := tb 1517 (by decide +kernel) (by decide +kernel)
theorem wd1518 : (Jvm.Cond.code ({ cls := "TelegramFeelingsModel", name := "say", desc := "(II)I" } : Jvm.MethodName) prog_12_method_56_code (9 : Nat) (Option.some Jvm.ClassFile.FieldType.int)) ∈ TB := tb 1518 (by decide +kernel) (by decide +kernel)
theorem wd1519 : (Jvm.Cond.methodLink "TelegramFeelingsModel" (318 : Nat) ({ cls := "TelegramFeelingsModel", name := "findSay", desc := "(II)V" } : Jvm.MethodName)) ∈ TB := tb 1519 (by decide +kernel) (by decide +kernel)
theorem wd1521 : (Jvm.Cond.instanceMethod ({ cls := "TelegramFeelingsModel", name := "findSay", desc := "(II)V" } : Jvm.MethodName)) ∈ TB := tb 1521 (by decide +kernel) (by decide +kernel)
theorem wd1522 : (Jvm.Cond.code ({ cls := "TelegramFeelingsModel", name := "findSay", desc := "(II)V" } : Jvm.MethodName) prog_12_method_54_code (7 : Nat) (Option.none : Option Jvm.ClassFile.FieldType)) ∈ TB := tb 1522 (by decide +kernel) (by decide +kernel)
theorem wd1523 : (Jvm.Cond.methodLink "TelegramFeelingsModel" (304 : Nat) ({ cls := "TelegramFeelingsModel", name := "sayAt", desc := "(IIII)I" } : Jvm.MethodName)) ∈ TB := tb 1523 (by decide +kernel) (by decide +kernel)
theorem wd1524 : (Jvm.Cond.static ({ cls := "TelegramFeelingsModel", name := "sayAt", desc := "(IIII)I" } : Jvm.MethodName)) ∈ TB := tb 1524 (by decide +kernel) (by decide +kernel)
theorem wd1525 : (Jvm.Cond.code ({ cls := "TelegramFeelingsModel", name := "sayAt", desc := "(IIII)I" } : Jvm.MethodName) prog_12_method_52_code (4 : Nat) (Option.some Jvm.ClassFile.FieldType.int)) ∈ TB := tb 1525 (by decide +kernel) (by decide +kernel)
theorem wd1526 : (Jvm.Cond.methodLink "TelegramFeelingsModel" (311 : Nat) ({ cls := "TelegramFeelingsModel", name := "leastSay", desc := "(IIII)I" } : Jvm.MethodName)) ∈ TB := tb 1526 (by decide +kernel) (by decide +kernel)
theorem wd1528 : (Jvm.Cond.instanceMethod ({ cls := "TelegramFeelingsModel", name := "leastSay", desc := "(IIII)I" } : Jvm.MethodName)) ∈ TB := tb 1528 (by decide +kernel) (by decide +kernel)
theorem wd1529 : (Jvm.Cond.code ({ cls := "TelegramFeelingsModel", name := "leastSay", desc := "(IIII)I" } : Jvm.MethodName) prog_12_method_55_code (8 : Nat) (Option.some Jvm.ClassFile.FieldType.int)) ∈ TB := tb 1529 (by decide +kernel) (by decide +kernel)
theorem wd1530 : (Jvm.Cond.methodLink "TelegramFeelingsModel" (314 : Nat) ({ cls := "TelegramFeelingsModel", name := "sayBy", desc := "(IIIII)I" } : Jvm.MethodName)) ∈ TB := tb 1530 (by decide +kernel) (by decide +kernel)
theorem wd1532 : (Jvm.Cond.instanceMethod ({ cls := "TelegramFeelingsModel", name := "sayBy", desc := "(IIIII)I" } : Jvm.MethodName)) ∈ TB := tb 1532 (by decide +kernel) (by decide +kernel)
theorem wd1533 : (Jvm.Cond.code ({ cls := "TelegramFeelingsModel", name := "sayBy", desc := "(IIIII)I" } : Jvm.MethodName) prog_12_method_53_code (7 : Nat) (Option.some Jvm.ClassFile.FieldType.int)) ∈ TB := tb 1533 (by decide +kernel) (by decide +kernel)
theorem wd1534 : (Jvm.Cond.methodLink "TelegramFeelingsLaw" (60 : Nat) ({ cls := "TelegramFeelingsModel", name := "allFor", desc := "(II)I" } : Jvm.MethodName)) ∈ TB := tb 1534 (by decide +kernel) (by decide +kernel)
theorem wd1535 : (Jvm.Cond.instanceMethod ({ cls := "TelegramFeelingsModel", name := "allFor", desc := "(II)I" } : Jvm.MethodName)) ∈ TB := tb 1535 (by decide +kernel) (by decide +kernel)
theorem wd1536 : (Jvm.Cond.selects "TelegramFeelingsModel" ({ cls := "TelegramFeelingsModel", name := "allFor", desc := "(II)I" } : Jvm.MethodName) ({ cls := "TelegramFeelingsModel", name := "allFor", desc := "(II)I" } : Jvm.MethodName)) ∈ TB := tb 1536 (by decide +kernel) (by decide +kernel)
theorem wd1537 : (Jvm.Cond.code ({ cls := "TelegramFeelingsModel", name := "allFor", desc := "(II)I" } : Jvm.MethodName) prog_12_method_61_code (5 : Nat) (Option.some Jvm.ClassFile.FieldType.int)) ∈ TB := tb 1537 (by decide +kernel) (by decide +kernel)
theorem wd1538 : (Jvm.Cond.methodLink "TelegramFeelingsModel" (331 : Nat) ({ cls := "TelegramFeelingsModel", name := "findLeast", desc := "()V" } : Jvm.MethodName)) ∈ TB := tb 1538 (by decide +kernel) (by decide +kernel)
theorem wd1540 : (Jvm.Cond.instanceMethod ({ cls := "TelegramFeelingsModel", name := "findLeast", desc := "()V" } : Jvm.MethodName)) ∈ TB := tb 1540 (by decide +kernel) (by decide +kernel)
theorem wd1541 : (Jvm.Cond.code ({ cls := "TelegramFeelingsModel", name := "findLeast", desc := "()V" } : Jvm.MethodName) prog_12_method_60_code (4 : Nat) (Option.none : Option Jvm.ClassFile.FieldType)) ∈ TB := tb 1541 (by decide +kernel) (by decide +kernel)
theorem wd1542 : (Jvm.Cond.methodLink "TelegramFeelingsModel" (321 : Nat) ({ cls := "TelegramFeelingsModel", name := "nowAt", desc := "(III)I" } : Jvm.MethodName)) ∈ TB := tb 1542 (by decide +kernel) (by decide +kernel)
theorem wd1543 : (Jvm.Cond.static ({ cls := "TelegramFeelingsModel", name := "nowAt", desc := "(III)I" } : Jvm.MethodName)) ∈ TB := tb 1543 (by decide +kernel) (by decide +kernel)
theorem wd1544 : (Jvm.Cond.code ({ cls := "TelegramFeelingsModel", name := "nowAt", desc := "(III)I" } : Jvm.MethodName) prog_12_method_57_code (3 : Nat) (Option.some Jvm.ClassFile.FieldType.int)) ∈ TB := tb 1544 (by decide +kernel) (by decide +kernel)
theorem wd1545 : (Jvm.Cond.methodLink "TelegramFeelingsModel" (328 : Nat) ({ cls := "TelegramFeelingsModel", name := "goPlace", desc := "(I)V" } : Jvm.MethodName)) ∈ TB := tb 1545 (by decide +kernel) (by decide +kernel)
theorem wd1547 : (Jvm.Cond.instanceMethod ({ cls := "TelegramFeelingsModel", name := "goPlace", desc := "(I)V" } : Jvm.MethodName)) ∈ TB := tb 1547 (by decide +kernel) (by decide +kernel)
theorem wd1548 : (Jvm.Cond.code ({ cls := "TelegramFeelingsModel", name := "goPlace", desc := "(I)V" } : Jvm.MethodName) prog_12_method_58_code (5 : Nat) (Option.none : Option Jvm.ClassFile.FieldType)) ∈ TB := tb 1548 (by decide +kernel) (by decide +kernel)
theorem wd1549 : (Jvm.Cond.methodLink "TelegramFeelingsModel" (324 : Nat) ({ cls := "TelegramFeelingsModel", name := "goFrom", desc := "(IIII)V" } : Jvm.MethodName)) ∈ TB := tb 1549 (by decide +kernel) (by decide +kernel)
theorem wd1551 : (Jvm.Cond.instanceMethod ({ cls := "TelegramFeelingsModel", name := "goFrom", desc := "(IIII)V" } : Jvm.MethodName)) ∈ TB := tb 1551 (by decide +kernel) (by decide +kernel)
theorem wd1552 : (Jvm.Cond.code ({ cls := "TelegramFeelingsModel", name := "goFrom", desc := "(IIII)V" } : Jvm.MethodName) prog_12_method_59_code (8 : Nat) (Option.none : Option Jvm.ClassFile.FieldType)) ∈ TB := tb 1552 (by decide +kernel) (by decide +kernel)
theorem wd1553 : (Jvm.Cond.methodLink "TelegramFeelingsModel" (334 : Nat) ({ cls := "TelegramFeelingsModel", name := "bitsOf", desc := "(I)I" } : Jvm.MethodName)) ∈ TB := tb 1553 (by decide +kernel) (by decide +kernel)
theorem wd1554 : (Jvm.Cond.static ({ cls := "TelegramFeelingsModel", name := "bitsOf", desc := "(I)I" } : Jvm.MethodName)) ∈ TB := tb 1554 (by decide +kernel) (by decide +kernel)
theorem wd1555 : (Jvm.Cond.code ({ cls := "TelegramFeelingsModel", name := "bitsOf", desc := "(I)I" } : Jvm.MethodName) prog_12_method_4_code (3 : Nat) (Option.some Jvm.ClassFile.FieldType.int)) ∈ TB := tb 1555 (by decide +kernel) (by decide +kernel)
theorem wd1556 : (Jvm.Cond.methodLink "TelegramFeelingsLaw" (64 : Nat) ({ cls := "TelegramFeelingsModel", name := "tooDear", desc := "(I)I" } : Jvm.MethodName)) ∈ TB := tb 1556 (by decide +kernel) (by decide +kernel)
theorem wd1557 : (Jvm.Cond.instanceMethod ({ cls := "TelegramFeelingsModel", name := "tooDear", desc := "(I)I" } : Jvm.MethodName)) ∈ TB := tb 1557 (by decide +kernel) (by decide +kernel)
theorem wd1558 : (Jvm.Cond.selects "TelegramFeelingsModel" ({ cls := "TelegramFeelingsModel", name := "tooDear", desc := "(I)I" } : Jvm.MethodName) ({ cls := "TelegramFeelingsModel", name := "tooDear", desc := "(I)I" } : Jvm.MethodName)) ∈ TB := tb 1558 (by decide +kernel) (by decide +kernel)
theorem wd1559 : (Jvm.Cond.code ({ cls := "TelegramFeelingsModel", name := "tooDear", desc := "(I)I" } : Jvm.MethodName) prog_12_method_62_code (4 : Nat) (Option.some Jvm.ClassFile.FieldType.int)) ∈ TB := tb 1559 (by decide +kernel) (by decide +kernel)
theorem wd1560 : (Jvm.Cond.methodLink "TelegramFeelingsLaw" (68 : Nat) ({ cls := "TelegramFeelingsModel", name := "year", desc := "(III)I" } : Jvm.MethodName)) ∈ TB := tb 1560 (by decide +kernel) (by decide +kernel)
theorem wd1561 : (Jvm.Cond.instanceMethod ({ cls := "TelegramFeelingsModel", name := "year", desc := "(III)I" } : Jvm.MethodName)) ∈ TB := tb 1561 (by decide +kernel) (by decide +kernel)
theorem wd1562 : (Jvm.Cond.selects "TelegramFeelingsModel" ({ cls := "TelegramFeelingsModel", name := "year", desc := "(III)I" } : Jvm.MethodName) ({ cls := "TelegramFeelingsModel", name := "year", desc := "(III)I" } : Jvm.MethodName)) ∈ TB := tb 1562 (by decide +kernel) (by decide +kernel)
theorem wd1563 : (Jvm.Cond.code ({ cls := "TelegramFeelingsModel", name := "year", desc := "(III)I" } : Jvm.MethodName) prog_12_method_63_code (12 : Nat) (Option.some Jvm.ClassFile.FieldType.int)) ∈ TB := tb 1563 (by decide +kernel) (by decide +kernel)
theorem wd1564 : (Jvm.Cond.methodLink "TelegramFeelingsLaw" (73 : Nat) ({ cls := "TelegramFeelingsModel", name := "came", desc := "(I)J" } : Jvm.MethodName)) ∈ TB := tb 1564 (by decide +kernel) (by decide +kernel)
theorem wd1565 : (Jvm.Cond.instanceMethod ({ cls := "TelegramFeelingsModel", name := "came", desc := "(I)J" } : Jvm.MethodName)) ∈ TB := tb 1565 (by decide +kernel) (by decide +kernel)
theorem wd1566 : (Jvm.Cond.selects "TelegramFeelingsModel" ({ cls := "TelegramFeelingsModel", name := "came", desc := "(I)J" } : Jvm.MethodName) ({ cls := "TelegramFeelingsModel", name := "came", desc := "(I)J" } : Jvm.MethodName)) ∈ TB := tb 1566 (by decide +kernel) (by decide +kernel)
theorem wd1567 : (Jvm.Cond.code ({ cls := "TelegramFeelingsModel", name := "came", desc := "(I)J" } : Jvm.MethodName) prog_12_method_71_code (2 : Nat) (Option.some Jvm.ClassFile.FieldType.long)) ∈ TB := tb 1567 (by decide +kernel) (by decide +kernel)
theorem wd1568 : (Jvm.Cond.constantLong "TelegramFeelingsModel" (355 : Nat) (-9223372036854775808 : Int64)) ∈ TB := tb 1568 (by decide +kernel) (by decide +kernel)
theorem wd1569 : (Jvm.Cond.methodLink "TelegramFeelingsModel" (357 : Nat) ({ cls := "TelegramFeelingsModel", name := "layFirst", desc := "(I)V" } : Jvm.MethodName)) ∈ TB := tb 1569 (by decide +kernel) (by decide +kernel)
theorem wd1571 : (Jvm.Cond.instanceMethod ({ cls := "TelegramFeelingsModel", name := "layFirst", desc := "(I)V" } : Jvm.MethodName)) ∈ TB := tb 1571 (by decide +kernel) (by decide +kernel)
theorem wd1572 : (Jvm.Cond.code ({ cls := "TelegramFeelingsModel", name := "layFirst", desc := "(I)V" } : Jvm.MethodName) prog_12_method_70_code (2 : Nat) (Option.none : Option Jvm.ClassFile.FieldType)) ∈ TB := tb 1572 (by decide +kernel) (by decide +kernel)
theorem wd1573 : (Jvm.Cond.methodLink "TelegramFeelingsModel" (360 : Nat) ({ cls := "TelegramFeelingsModel", name := "findErrors", desc := "(I)V" } : Jvm.MethodName)) ∈ TB := tb 1573 (by decide +kernel) (by decide +kernel)
theorem wd1575 : (Jvm.Cond.instanceMethod ({ cls := "TelegramFeelingsModel", name := "findErrors", desc := "(I)V" } : Jvm.MethodName)) ∈ TB := tb 1575 (by decide +kernel) (by decide +kernel)
theorem wd1576 : (Jvm.Cond.code ({ cls := "TelegramFeelingsModel", name := "findErrors", desc := "(I)V" } : Jvm.MethodName) prog_12_method_68_code (6 : Nat) (Option.none : Option Jvm.ClassFile.FieldType)) ∈ TB := tb 1576 (by decide +kernel) (by decide +kernel)
theorem wd1577 : (Jvm.Cond.methodLink "TelegramFeelingsModel" (343 : Nat) ({ cls := "TelegramFeelingsModel", name := "errAt", desc := "(IIII)I" } : Jvm.MethodName)) ∈ TB := tb 1577 (by decide +kernel) (by decide +kernel)
theorem wd1578 : (Jvm.Cond.static ({ cls := "TelegramFeelingsModel", name := "errAt", desc := "(IIII)I" } : Jvm.MethodName)) ∈ TB := tb 1578 (by decide +kernel) (by decide +kernel)
theorem wd1579 : (Jvm.Cond.code ({ cls := "TelegramFeelingsModel", name := "errAt", desc := "(IIII)I" } : Jvm.MethodName) prog_12_method_64_code (4 : Nat) (Option.some Jvm.ClassFile.FieldType.int)) ∈ TB := tb 1579 (by decide +kernel) (by decide +kernel)
theorem wd1580 : (Jvm.Cond.methodLink "TelegramFeelingsModel" (346 : Nat) ({ cls := "TelegramFeelingsModel", name := "findPlace", desc := "(IIII)V" } : Jvm.MethodName)) ∈ TB := tb 1580 (by decide +kernel) (by decide +kernel)
theorem wd1582 : (Jvm.Cond.instanceMethod ({ cls := "TelegramFeelingsModel", name := "findPlace", desc := "(IIII)V" } : Jvm.MethodName)) ∈ TB := tb 1582 (by decide +kernel) (by decide +kernel)
theorem wd1583 : (Jvm.Cond.code ({ cls := "TelegramFeelingsModel", name := "findPlace", desc := "(IIII)V" } : Jvm.MethodName) prog_12_method_69_code (14 : Nat) (Option.none : Option Jvm.ClassFile.FieldType)) ∈ TB := tb 1583 (by decide +kernel) (by decide +kernel)
theorem wd1584 : (Jvm.Cond.methodLink "TelegramFeelingsModel" (349 : Nat) ({ cls := "TelegramFeelingsModel", name := "weightOf", desc := "(II)I" } : Jvm.MethodName)) ∈ TB := tb 1584 (by decide +kernel) (by decide +kernel)
theorem wd1586 : (Jvm.Cond.instanceMethod ({ cls := "TelegramFeelingsModel", name := "weightOf", desc := "(II)I" } : Jvm.MethodName)) ∈ TB := tb 1586 (by decide +kernel) (by decide +kernel)
theorem wd1587 : (Jvm.Cond.code ({ cls := "TelegramFeelingsModel", name := "weightOf", desc := "(II)I" } : Jvm.MethodName) prog_12_method_65_code (4 : Nat) (Option.some Jvm.ClassFile.FieldType.int)) ∈ TB := tb 1587 (by decide +kernel) (by decide +kernel)
theorem wd1588 : (Jvm.Cond.methodLink "TelegramFeelingsModel" (352 : Nat) ({ cls := "TelegramFeelingsModel", name := "nextAt", desc := "(IIII)I" } : Jvm.MethodName)) ∈ TB := tb 1588 (by decide +kernel) (by decide +kernel)
theorem wd1590 : (Jvm.Cond.instanceMethod ({ cls := "TelegramFeelingsModel", name := "nextAt", desc := "(IIII)I" } : Jvm.MethodName)) ∈ TB := tb 1590 (by decide +kernel) (by decide +kernel)
theorem wd1591 : (Jvm.Cond.code ({ cls := "TelegramFeelingsModel", name := "nextAt", desc := "(IIII)I" } : Jvm.MethodName) prog_12_method_67_code (5 : Nat) (Option.some Jvm.ClassFile.FieldType.int)) ∈ TB := tb 1591 (by decide +kernel) (by decide +kernel)
theorem wd1592 : (Jvm.Cond.methodLink "TelegramFeelingsModel" (340 : Nat) ({ cls := "TelegramFeelingsModel", name := "seenBy", desc := "(II)I" } : Jvm.MethodName)) ∈ TB := tb 1592 (by decide +kernel) (by decide +kernel)
theorem wd1594 : (Jvm.Cond.instanceMethod ({ cls := "TelegramFeelingsModel", name := "seenBy", desc := "(II)I" } : Jvm.MethodName)) ∈ TB := tb 1594 (by decide +kernel) (by decide +kernel)
theorem wd1595 : (Jvm.Cond.code ({ cls := "TelegramFeelingsModel", name := "seenBy", desc := "(II)I" } : Jvm.MethodName) prog_12_method_66_code (3 : Nat) (Option.some Jvm.ClassFile.FieldType.int)) ∈ TB := tb 1595 (by decide +kernel) (by decide +kernel)
theorem wd1596 : (Jvm.Cond.methodLink "TelegramFeelingsLaw" (77 : Nat) ({ cls := "TelegramFeelingsModel", name := "cameAs", desc := "(II)I" } : Jvm.MethodName)) ∈ TB := tb 1596 (by decide +kernel) (by decide +kernel)
theorem wd1597 : (Jvm.Cond.instanceMethod ({ cls := "TelegramFeelingsModel", name := "cameAs", desc := "(II)I" } : Jvm.MethodName)) ∈ TB := tb 1597 (by decide +kernel) (by decide +kernel)
theorem wd1598 : (Jvm.Cond.selects "TelegramFeelingsModel" ({ cls := "TelegramFeelingsModel", name := "cameAs", desc := "(II)I" } : Jvm.MethodName) ({ cls := "TelegramFeelingsModel", name := "cameAs", desc := "(II)I" } : Jvm.MethodName)) ∈ TB := tb 1598 (by decide +kernel) (by decide +kernel)
theorem wd1599 : (Jvm.Cond.code ({ cls := "TelegramFeelingsModel", name := "cameAs", desc := "(II)I" } : Jvm.MethodName) prog_12_method_72_code (8 : Nat) (Option.some Jvm.ClassFile.FieldType.int)) ∈ TB := tb 1599 (by decide +kernel) (by decide +kernel)
theorem wd1600 : (Jvm.Cond.methodLink "TelegramFeelingsLaw" (82 : Nat) ({ cls := "TelegramFeelingsModel", name := "meant", desc := "(III)J" } : Jvm.MethodName)) ∈ TB := tb 1600 (by decide +kernel) (by decide +kernel)
theorem wd1601 : (Jvm.Cond.instanceMethod ({ cls := "TelegramFeelingsModel", name := "meant", desc := "(III)J" } : Jvm.MethodName)) ∈ TB := tb 1601 (by decide +kernel) (by decide +kernel)
theorem wd1602 : (Jvm.Cond.selects "TelegramFeelingsModel" ({ cls := "TelegramFeelingsModel", name := "meant", desc := "(III)J" } : Jvm.MethodName) ({ cls := "TelegramFeelingsModel", name := "meant", desc := "(III)J" } : Jvm.MethodName)) ∈ TB := tb 1602 (by decide +kernel) (by decide +kernel)
theorem wd1603 : (Jvm.Cond.code ({ cls := "TelegramFeelingsModel", name := "meant", desc := "(III)J" } : Jvm.MethodName) prog_12_method_75_code (6 : Nat) (Option.some Jvm.ClassFile.FieldType.long)) ∈ TB := tb 1603 (by decide +kernel) (by decide +kernel)
theorem wd1604 : (Jvm.Cond.methodLink "TelegramFeelingsModel" (363 : Nat) ({ cls := "TelegramFeelingsModel", name := "oddsWith", desc := "(I)J" } : Jvm.MethodName)) ∈ TB := tb 1604 (by decide +kernel) (by decide +kernel)
theorem wd1606 : (Jvm.Cond.instanceMethod ({ cls := "TelegramFeelingsModel", name := "oddsWith", desc := "(I)J" } : Jvm.MethodName)) ∈ TB := tb 1606 (by decide +kernel) (by decide +kernel)
theorem wd1607 : (Jvm.Cond.code ({ cls := "TelegramFeelingsModel", name := "oddsWith", desc := "(I)J" } : Jvm.MethodName) prog_12_method_74_code (2 : Nat) (Option.some Jvm.ClassFile.FieldType.long)) ∈ TB := tb 1607 (by decide +kernel) (by decide +kernel)
theorem wd1608 : (Jvm.Cond.methodLink "TelegramFeelingsModel" (367 : Nat) ({ cls := "TelegramFeelingsModel", name := "lowest", desc := "(JJI)J" } : Jvm.MethodName)) ∈ TB := tb 1608 (by decide +kernel) (by decide +kernel)
theorem wd1609 : (Jvm.Cond.static ({ cls := "TelegramFeelingsModel", name := "lowest", desc := "(JJI)J" } : Jvm.MethodName)) ∈ TB := tb 1609 (by decide +kernel) (by decide +kernel)
theorem wd1610 : (Jvm.Cond.code ({ cls := "TelegramFeelingsModel", name := "lowest", desc := "(JJI)J" } : Jvm.MethodName) prog_12_method_73_code (11 : Nat) (Option.some Jvm.ClassFile.FieldType.long)) ∈ TB := tb 1610 (by decide +kernel) (by decide +kernel)
theorem wd1611 : (Jvm.Cond.methodLink "TelegramFeelingsLaw" (86 : Nat) ({ cls := "TelegramFeelingsModel", name := "certain", desc := "(I)I" } : Jvm.MethodName)) ∈ TB := tb 1611 (by decide +kernel) (by decide +kernel)
theorem wd1612 : (Jvm.Cond.instanceMethod ({ cls := "TelegramFeelingsModel", name := "certain", desc := "(I)I" } : Jvm.MethodName)) ∈ TB := tb 1612 (by decide +kernel) (by decide +kernel)
theorem wd1613 : (Jvm.Cond.selects "TelegramFeelingsModel" ({ cls := "TelegramFeelingsModel", name := "certain", desc := "(I)I" } : Jvm.MethodName) ({ cls := "TelegramFeelingsModel", name := "certain", desc := "(I)I" } : Jvm.MethodName)) ∈ TB := tb 1613 (by decide +kernel) (by decide +kernel)
theorem wd1614 : (Jvm.Cond.code ({ cls := "TelegramFeelingsModel", name := "certain", desc := "(I)I" } : Jvm.MethodName) prog_12_method_76_code (7 : Nat) (Option.some Jvm.ClassFile.FieldType.int)) ∈ TB := tb 1614 (by decide +kernel) (by decide +kernel)
theorem wd1615 : (Jvm.Cond.methodLink "TelegramFeelingsLaw" (91 : Nat) ({ cls := "TelegramFeelingsModel", name := "safe", desc := "(II)J" } : Jvm.MethodName)) ∈ TB := tb 1615 (by decide +kernel) (by decide +kernel)
theorem wd1616 : (Jvm.Cond.instanceMethod ({ cls := "TelegramFeelingsModel", name := "safe", desc := "(II)J" } : Jvm.MethodName)) ∈ TB := tb 1616 (by decide +kernel) (by decide +kernel)
theorem wd1617 : (Jvm.Cond.selects "TelegramFeelingsModel" ({ cls := "TelegramFeelingsModel", name := "safe", desc := "(II)J" } : Jvm.MethodName) ({ cls := "TelegramFeelingsModel", name := "safe", desc := "(II)J" } : Jvm.MethodName)) ∈ TB := tb 1617 (by decide +kernel) (by decide +kernel)
theorem wd1618 : (Jvm.Cond.code ({ cls := "TelegramFeelingsModel", name := "safe", desc := "(II)J" } : Jvm.MethodName) prog_12_method_77_code (14 : Nat) (Option.some Jvm.ClassFile.FieldType.long)) ∈ TB := tb 1618 (by decide +kernel) (by decide +kernel)
theorem wd1619 : (Jvm.Cond.constantLong "TelegramFeelingsModel" (371 : Nat) (12 : Int64)) ∈ TB := tb 1619 (by decide +kernel) (by decide +kernel)
theorem wd1620 : (Jvm.Cond.methodLink "TelegramFeelingsLaw" (95 : Nat) ({ cls := "TelegramFeelingsModel", name := "unsigned", desc := "(II)I" } : Jvm.MethodName)) ∈ TB := tb 1620 (by decide +kernel) (by decide +kernel)
theorem wd1621 : (Jvm.Cond.instanceMethod ({ cls := "TelegramFeelingsModel", name := "unsigned", desc := "(II)I" } : Jvm.MethodName)) ∈ TB := tb 1621 (by decide +kernel) (by decide +kernel)
theorem wd1622 : (Jvm.Cond.selects "TelegramFeelingsModel" ({ cls := "TelegramFeelingsModel", name := "unsigned", desc := "(II)I" } : Jvm.MethodName) ({ cls := "TelegramFeelingsModel", name := "unsigned", desc := "(II)I" } : Jvm.MethodName)) ∈ TB := tb 1622 (by decide +kernel) (by decide +kernel)
theorem wd1623 : (Jvm.Cond.code ({ cls := "TelegramFeelingsModel", name := "unsigned", desc := "(II)I" } : Jvm.MethodName) prog_12_method_78_code (7 : Nat) (Option.some Jvm.ClassFile.FieldType.int)) ∈ TB := tb 1623 (by decide +kernel) (by decide +kernel)
theorem wd1624 : (Jvm.Cond.methodLink "TelegramFeelingsLaw" (99 : Nat) ({ cls := "TelegramFeelingsModel", name := "club", desc := "(III)I" } : Jvm.MethodName)) ∈ TB := tb 1624 (by decide +kernel) (by decide +kernel)
theorem wd1625 : (Jvm.Cond.instanceMethod ({ cls := "TelegramFeelingsModel", name := "club", desc := "(III)I" } : Jvm.MethodName)) ∈ TB := tb 1625 (by decide +kernel) (by decide +kernel)
theorem wd1626 : (Jvm.Cond.selects "TelegramFeelingsModel" ({ cls := "TelegramFeelingsModel", name := "club", desc := "(III)I" } : Jvm.MethodName) ({ cls := "TelegramFeelingsModel", name := "club", desc := "(III)I" } : Jvm.MethodName)) ∈ TB := tb 1626 (by decide +kernel) (by decide +kernel)
theorem wd1627 : (Jvm.Cond.code ({ cls := "TelegramFeelingsModel", name := "club", desc := "(III)I" } : Jvm.MethodName) prog_12_method_79_code (7 : Nat) (Option.some Jvm.ClassFile.FieldType.int)) ∈ TB := tb 1627 (by decide +kernel) (by decide +kernel)
theorem wd1628 : (Jvm.Cond.methodLink "TelegramFeelingsLaw" (103 : Nat) ({ cls := "TelegramFeelingsModel", name := "lacks", desc := "(I)I" } : Jvm.MethodName)) ∈ TB := tb 1628 (by decide +kernel) (by decide +kernel)
theorem wd1629 : (Jvm.Cond.instanceMethod ({ cls := "TelegramFeelingsModel", name := "lacks", desc := "(I)I" } : Jvm.MethodName)) ∈ TB := tb 1629 (by decide +kernel) (by decide +kernel)
theorem wd1630 : (Jvm.Cond.selects "TelegramFeelingsModel" ({ cls := "TelegramFeelingsModel", name := "lacks", desc := "(I)I" } : Jvm.MethodName) ({ cls := "TelegramFeelingsModel", name := "lacks", desc := "(I)I" } : Jvm.MethodName)) ∈ TB := tb 1630 (by decide +kernel) (by decide +kernel)
theorem wd1631 : (Jvm.Cond.code ({ cls := "TelegramFeelingsModel", name := "lacks", desc := "(I)I" } : Jvm.MethodName) prog_12_method_80_code (5 : Nat) (Option.some Jvm.ClassFile.FieldType.int)) ∈ TB := tb 1631 (by decide +kernel) (by decide +kernel)
theorem wd1632 : (Jvm.Cond.methodLink "TelegramFeelingsLaw" (107 : Nat) ({ cls := "TelegramFeelingsModel", name := "drawn", desc := "(III)I" } : Jvm.MethodName)) ∈ TB := tb 1632 (by decide +kernel) (by decide +kernel)
theorem wd1633 : (Jvm.Cond.instanceMethod ({ cls := "TelegramFeelingsModel", name := "drawn", desc := "(III)I" } : Jvm.MethodName)) ∈ TB := tb 1633 (by decide +kernel) (by decide +kernel)
theorem wd1634 : (Jvm.Cond.selects "TelegramFeelingsModel" ({ cls := "TelegramFeelingsModel", name := "drawn", desc := "(III)I" } : Jvm.MethodName) ({ cls := "TelegramFeelingsModel", name := "drawn", desc := "(III)I" } : Jvm.MethodName)) ∈ TB := tb 1634 (by decide +kernel) (by decide +kernel)
theorem wd1635 : (Jvm.Cond.code ({ cls := "TelegramFeelingsModel", name := "drawn", desc := "(III)I" } : Jvm.MethodName) prog_12_method_81_code (10 : Nat) (Option.some Jvm.ClassFile.FieldType.int)) ∈ TB := tb 1635 (by decide +kernel) (by decide +kernel)
theorem wd1636 : (Jvm.Cond.constant "TelegramFeelingsModel" (373 : Nat) (1103515245 : Int32)) ∈ TB := tb 1636 (by decide +kernel) (by decide +kernel)
theorem wd1637 : (Jvm.Cond.methodLink "TelegramFeelingsLaw" (111 : Nat) ({ cls := "TelegramFeelingsModel", name := "send", desc := "(II)I" } : Jvm.MethodName)) ∈ TB := tb 1637 (by decide +kernel) (by decide +kernel)
theorem wd1638 : (Jvm.Cond.instanceMethod ({ cls := "TelegramFeelingsModel", name := "send", desc := "(II)I" } : Jvm.MethodName)) ∈ TB := tb 1638 (by decide +kernel) (by decide +kernel)
theorem wd1639 : (Jvm.Cond.selects "TelegramFeelingsModel" ({ cls := "TelegramFeelingsModel", name := "send", desc := "(II)I" } : Jvm.MethodName) ({ cls := "TelegramFeelingsModel", name := "send", desc := "(II)I" } : Jvm.MethodName)) ∈ TB := tb 1639 (by decide +kernel) (by decide +kernel)
theorem wd1640 : (Jvm.Cond.code ({ cls := "TelegramFeelingsModel", name := "send", desc := "(II)I" } : Jvm.MethodName) prog_12_method_82_code (6 : Nat) (Option.some Jvm.ClassFile.FieldType.int)) ∈ TB := tb 1640 (by decide +kernel) (by decide +kernel)
theorem wd1641 : (Jvm.Cond.methodLink "TelegramFeelingsLaw" (115 : Nat) ({ cls := "TelegramFeelingsModel", name := "night", desc := "()I" } : Jvm.MethodName)) ∈ TB := tb 1641 (by decide +kernel) (by decide +kernel)
theorem wd1642 : (Jvm.Cond.instanceMethod ({ cls := "TelegramFeelingsModel", name := "night", desc := "()I" } : Jvm.MethodName)) ∈ TB := tb 1642 (by decide +kernel) (by decide +kernel)
theorem wd1643 : (Jvm.Cond.selects "TelegramFeelingsModel" ({ cls := "TelegramFeelingsModel", name := "night", desc := "()I" } : Jvm.MethodName) ({ cls := "TelegramFeelingsModel", name := "night", desc := "()I" } : Jvm.MethodName)) ∈ TB := tb 1643 (by decide +kernel) (by decide +kernel)
theorem wd1644 : (Jvm.Cond.code ({ cls := "TelegramFeelingsModel", name := "night", desc := "()I" } : Jvm.MethodName) prog_12_method_83_code (1 : Nat) (Option.some Jvm.ClassFile.FieldType.int)) ∈ TB := tb 1644 (by decide +kernel) (by decide +kernel)
theorem wd1645 : (Jvm.Cond.methodLink "TelegramFeelingsLaw" (119 : Nat) ({ cls := "TelegramFeelingsModel", name := "led", desc := "(I)I" } : Jvm.MethodName)) ∈ TB := tb 1645 (by decide +kernel) (by decide +kernel)
theorem wd1646 : (Jvm.Cond.instanceMethod ({ cls := "TelegramFeelingsModel", name := "led", desc := "(I)I" } : Jvm.MethodName)) ∈ TB := tb 1646 (by decide +kernel) (by decide +kernel)
theorem wd1647 : (Jvm.Cond.selects "TelegramFeelingsModel" ({ cls := "TelegramFeelingsModel", name := "led", desc := "(I)I" } : Jvm.MethodName) ({ cls := "TelegramFeelingsModel", name := "led", desc := "(I)I" } : Jvm.MethodName)) ∈ TB := tb 1647 (by decide +kernel) (by decide +kernel)
theorem wd1648 : (Jvm.Cond.code ({ cls := "TelegramFeelingsModel", name := "led", desc := "(I)I" } : Jvm.MethodName) prog_12_method_84_code (2 : Nat) (Option.some Jvm.ClassFile.FieldType.int)) ∈ TB := tb 1648 (by decide +kernel) (by decide +kernel)
theorem wd1649 : (Jvm.Cond.methodLink "TelegramFeelingsLaw" (123 : Nat) ({ cls := "TelegramFeelingsModel", name := "image", desc := "()I" } : Jvm.MethodName)) ∈ TB := tb 1649 (by decide +kernel) (by decide +kernel)
theorem wd1650 : (Jvm.Cond.instanceMethod ({ cls := "TelegramFeelingsModel", name := "image", desc := "()I" } : Jvm.MethodName)) ∈ TB := tb 1650 (by decide +kernel) (by decide +kernel)
theorem wd1651 : (Jvm.Cond.selects "TelegramFeelingsModel" ({ cls := "TelegramFeelingsModel", name := "image", desc := "()I" } : Jvm.MethodName) ({ cls := "TelegramFeelingsModel", name := "image", desc := "()I" } : Jvm.MethodName)) ∈ TB := tb 1651 (by decide +kernel) (by decide +kernel)
theorem wd1652 : (Jvm.Cond.code ({ cls := "TelegramFeelingsModel", name := "image", desc := "()I" } : Jvm.MethodName) prog_12_method_85_code (2 : Nat) (Option.some Jvm.ClassFile.FieldType.int)) ∈ TB := tb 1652 (by decide +kernel) (by decide +kernel)
theorem wd1653 : (Jvm.Cond.methodLink "TelegramFeelingsLaw" (127 : Nat) ({ cls := "TelegramFeelingsModel", name := "back", desc := "()I" } : Jvm.MethodName)) ∈ TB := tb 1653 (by decide +kernel) (by decide +kernel)
theorem wd1654 : (Jvm.Cond.instanceMethod ({ cls := "TelegramFeelingsModel", name := "back", desc := "()I" } : Jvm.MethodName)) ∈ TB := tb 1654 (by decide +kernel) (by decide +kernel)
theorem wd1655 : (Jvm.Cond.selects "TelegramFeelingsModel" ({ cls := "TelegramFeelingsModel", name := "back", desc := "()I" } : Jvm.MethodName) ({ cls := "TelegramFeelingsModel", name := "back", desc := "()I" } : Jvm.MethodName)) ∈ TB := tb 1655 (by decide +kernel) (by decide +kernel)
theorem wd1656 : (Jvm.Cond.code ({ cls := "TelegramFeelingsModel", name := "back", desc := "()I" } : Jvm.MethodName) prog_12_method_86_code (2 : Nat) (Option.some Jvm.ClassFile.FieldType.int)) ∈ TB := tb 1656 (by decide +kernel) (by decide +kernel)
theorem wd1657 : (Jvm.Cond.methodLink "TelegramFeelingsLaw" (147 : Nat) ({ cls := "TelegramFeelingsModel", name := "trace", desc := "(I)I" } : Jvm.MethodName)) ∈ TB := tb 1657 (by decide +kernel) (by decide +kernel)
theorem wd1658 : (Jvm.Cond.instanceMethod ({ cls := "TelegramFeelingsModel", name := "trace", desc := "(I)I" } : Jvm.MethodName)) ∈ TB := tb 1658 (by decide +kernel) (by decide +kernel)
theorem wd1659 : (Jvm.Cond.selects "TelegramFeelingsModel" ({ cls := "TelegramFeelingsModel", name := "trace", desc := "(I)I" } : Jvm.MethodName) ({ cls := "TelegramFeelingsModel", name := "trace", desc := "(I)I" } : Jvm.MethodName)) ∈ TB := tb 1659 (by decide +kernel) (by decide +kernel)
theorem wd1660 : (Jvm.Cond.code ({ cls := "TelegramFeelingsModel", name := "trace", desc := "(I)I" } : Jvm.MethodName) prog_12_method_89_code (2 : Nat) (Option.some Jvm.ClassFile.FieldType.int)) ∈ TB := tb 1660 (by decide +kernel) (by decide +kernel)
theorem wd1661 : (Jvm.Cond.methodLink "TelegramFeelingsLaw" (139 : Nat) ({ cls := "TelegramFeelingsModel", name := "body", desc := "(I)I" } : Jvm.MethodName)) ∈ TB := tb 1661 (by decide +kernel) (by decide +kernel)
theorem wd1662 : (Jvm.Cond.instanceMethod ({ cls := "TelegramFeelingsModel", name := "body", desc := "(I)I" } : Jvm.MethodName)) ∈ TB := tb 1662 (by decide +kernel) (by decide +kernel)
theorem wd1663 : (Jvm.Cond.selects "TelegramFeelingsModel" ({ cls := "TelegramFeelingsModel", name := "body", desc := "(I)I" } : Jvm.MethodName) ({ cls := "TelegramFeelingsModel", name := "body", desc := "(I)I" } : Jvm.MethodName)) ∈ TB := tb 1663 (by decide +kernel) (by decide +kernel)
theorem wd1664 : (Jvm.Cond.code ({ cls := "TelegramFeelingsModel", name := "body", desc := "(I)I" } : Jvm.MethodName) prog_12_method_90_code (2 : Nat) (Option.some Jvm.ClassFile.FieldType.int)) ∈ TB := tb 1664 (by decide +kernel) (by decide +kernel)
theorem wd1665 : (Jvm.Cond.methodLink "TelegramFeelingsLaw" (143 : Nat) ({ cls := "TelegramFeelingsModel", name := "act", desc := "(III)I" } : Jvm.MethodName)) ∈ TB := tb 1665 (by decide +kernel) (by decide +kernel)
theorem wd1666 : (Jvm.Cond.instanceMethod ({ cls := "TelegramFeelingsModel", name := "act", desc := "(III)I" } : Jvm.MethodName)) ∈ TB := tb 1666 (by decide +kernel) (by decide +kernel)
theorem wd1667 : (Jvm.Cond.selects "TelegramFeelingsModel" ({ cls := "TelegramFeelingsModel", name := "act", desc := "(III)I" } : Jvm.MethodName) ({ cls := "TelegramFeelingsModel", name := "act", desc := "(III)I" } : Jvm.MethodName)) ∈ TB := tb 1667 (by decide +kernel) (by decide +kernel)
theorem wd1668 : (Jvm.Cond.code ({ cls := "TelegramFeelingsModel", name := "act", desc := "(III)I" } : Jvm.MethodName) prog_12_method_103_code (4 : Nat) (Option.some Jvm.ClassFile.FieldType.int)) ∈ TB := tb 1668 (by decide +kernel) (by decide +kernel)
theorem wd1669 : (Jvm.Cond.methodLink "TelegramFeelingsModel" (425 : Nat) ({ cls := "TelegramFeelingsModel", name := "isBody", desc := "(I)Z" } : Jvm.MethodName)) ∈ TB := tb 1669 (by decide +kernel) (by decide +kernel)
theorem wd1671 : (Jvm.Cond.instanceMethod ({ cls := "TelegramFeelingsModel", name := "isBody", desc := "(I)Z" } : Jvm.MethodName)) ∈ TB := tb 1671 (by decide +kernel) (by decide +kernel)
theorem wd1672 : (Jvm.Cond.code ({ cls := "TelegramFeelingsModel", name := "isBody", desc := "(I)Z" } : Jvm.MethodName) prog_12_method_87_code (2 : Nat) (Option.some Jvm.ClassFile.FieldType.boolean)) ∈ TB := tb 1672 (by decide +kernel) (by decide +kernel)
theorem wd1673 : (Jvm.Cond.methodLink "TelegramFeelingsModel" (401 : Nat) ({ cls := "TelegramFeelingsModel", name := "saying", desc := "(II)I" } : Jvm.MethodName)) ∈ TB := tb 1673 (by decide +kernel) (by decide +kernel)
theorem wd1675 : (Jvm.Cond.instanceMethod ({ cls := "TelegramFeelingsModel", name := "saying", desc := "(II)I" } : Jvm.MethodName)) ∈ TB := tb 1675 (by decide +kernel) (by decide +kernel)
theorem wd1676 : (Jvm.Cond.code ({ cls := "TelegramFeelingsModel", name := "saying", desc := "(II)I" } : Jvm.MethodName) prog_12_method_94_code (3 : Nat) (Option.some Jvm.ClassFile.FieldType.int)) ∈ TB := tb 1676 (by decide +kernel) (by decide +kernel)
theorem wd1677 : (Jvm.Cond.methodLink "TelegramFeelingsModel" (395 : Nat) ({ cls := "TelegramFeelingsModel", name := "isUnder", desc := "(II)Z" } : Jvm.MethodName)) ∈ TB := tb 1677 (by decide +kernel) (by decide +kernel)
theorem wd1678 : (Jvm.Cond.static ({ cls := "TelegramFeelingsModel", name := "isUnder", desc := "(II)Z" } : Jvm.MethodName)) ∈ TB := tb 1678 (by decide +kernel) (by decide +kernel)
theorem wd1679 : (Jvm.Cond.code ({ cls := "TelegramFeelingsModel", name := "isUnder", desc := "(II)Z" } : Jvm.MethodName) prog_12_method_91_code (2 : Nat) (Option.some Jvm.ClassFile.FieldType.boolean)) ∈ TB := tb 1679 (by decide +kernel) (by decide +kernel)
theorem wd1680 : (Jvm.Cond.methodLink "TelegramFeelingsModel" (389 : Nat) ({ cls := "TelegramFeelingsModel", name := "ran", desc := "(I)V" } : Jvm.MethodName)) ∈ TB := tb 1680 (by decide +kernel) (by decide +kernel)
theorem wd1682 : (Jvm.Cond.instanceMethod ({ cls := "TelegramFeelingsModel", name := "ran", desc := "(I)V" } : Jvm.MethodName)) ∈ TB := tb 1682 (by decide +kernel) (by decide +kernel)
theorem wd1683 : (Jvm.Cond.code ({ cls := "TelegramFeelingsModel", name := "ran", desc := "(I)V" } : Jvm.MethodName) prog_12_method_88_code (2 : Nat) (Option.none : Option Jvm.ClassFile.FieldType)) ∈ TB := tb 1683 (by decide +kernel) (by decide +kernel)
theorem wd1684 : (Jvm.Cond.methodLink "TelegramFeelingsModel" (392 : Nat) ({ cls := "TelegramFeelingsModel", name := "plainSays", desc := "(II)I" } : Jvm.MethodName)) ∈ TB := tb 1684 (by decide +kernel) (by decide +kernel)
theorem wd1686 : (Jvm.Cond.instanceMethod ({ cls := "TelegramFeelingsModel", name := "plainSays", desc := "(II)I" } : Jvm.MethodName)) ∈ TB := tb 1686 (by decide +kernel) (by decide +kernel)
theorem wd1687 : (Jvm.Cond.code ({ cls := "TelegramFeelingsModel", name := "plainSays", desc := "(II)I" } : Jvm.MethodName) prog_12_method_92_code (3 : Nat) (Option.some Jvm.ClassFile.FieldType.int)) ∈ TB := tb 1687 (by decide +kernel) (by decide +kernel)
theorem wd1688 : (Jvm.Cond.methodLink "TelegramFeelingsModel" (398 : Nat) ({ cls := "TelegramFeelingsModel", name := "cowSays", desc := "(II)I" } : Jvm.MethodName)) ∈ TB := tb 1688 (by decide +kernel) (by decide +kernel)
theorem wd1690 : (Jvm.Cond.instanceMethod ({ cls := "TelegramFeelingsModel", name := "cowSays", desc := "(II)I" } : Jvm.MethodName)) ∈ TB := tb 1690 (by decide +kernel) (by decide +kernel)
theorem wd1691 : (Jvm.Cond.code ({ cls := "TelegramFeelingsModel", name := "cowSays", desc := "(II)I" } : Jvm.MethodName) prog_12_method_93_code (3 : Nat) (Option.some Jvm.ClassFile.FieldType.int)) ∈ TB := tb 1691 (by decide +kernel) (by decide +kernel)
theorem wd1692 : (Jvm.Cond.methodLink "TelegramFeelingsModel" (419 : Nat) ({ cls := "TelegramFeelingsModel", name := "costing", desc := "(II)I" } : Jvm.MethodName)) ∈ TB := tb 1692 (by decide +kernel) (by decide +kernel)
theorem wd1694 : (Jvm.Cond.instanceMethod ({ cls := "TelegramFeelingsModel", name := "costing", desc := "(II)I" } : Jvm.MethodName)) ∈ TB := tb 1694 (by decide +kernel) (by decide +kernel)
theorem wd1695 : (Jvm.Cond.code ({ cls := "TelegramFeelingsModel", name := "costing", desc := "(II)I" } : Jvm.MethodName) prog_12_method_97_code (4 : Nat) (Option.some Jvm.ClassFile.FieldType.int)) ∈ TB := tb 1695 (by decide +kernel) (by decide +kernel)
theorem wd1696 : (Jvm.Cond.methodLink "TelegramFeelingsModel" (407 : Nat) ({ cls := "TelegramFeelingsModel", name := "clerkCosts", desc := "(II)I" } : Jvm.MethodName)) ∈ TB := tb 1696 (by decide +kernel) (by decide +kernel)
theorem wd1698 : (Jvm.Cond.instanceMethod ({ cls := "TelegramFeelingsModel", name := "clerkCosts", desc := "(II)I" } : Jvm.MethodName)) ∈ TB := tb 1698 (by decide +kernel) (by decide +kernel)
theorem wd1699 : (Jvm.Cond.code ({ cls := "TelegramFeelingsModel", name := "clerkCosts", desc := "(II)I" } : Jvm.MethodName) prog_12_method_96_code (3 : Nat) (Option.some Jvm.ClassFile.FieldType.int)) ∈ TB := tb 1699 (by decide +kernel) (by decide +kernel)
theorem wd1700 : (Jvm.Cond.methodLink "TelegramFeelingsModel" (404 : Nat) ({ cls := "TelegramFeelingsModel", name := "plainCosts", desc := "(II)I" } : Jvm.MethodName)) ∈ TB := tb 1700 (by decide +kernel) (by decide +kernel)
theorem wd1702 : (Jvm.Cond.instanceMethod ({ cls := "TelegramFeelingsModel", name := "plainCosts", desc := "(II)I" } : Jvm.MethodName)) ∈ TB := tb 1702 (by decide +kernel) (by decide +kernel)
theorem wd1703 : (Jvm.Cond.code ({ cls := "TelegramFeelingsModel", name := "plainCosts", desc := "(II)I" } : Jvm.MethodName) prog_12_method_95_code (3 : Nat) (Option.some Jvm.ClassFile.FieldType.int)) ∈ TB := tb 1703 (by decide +kernel) (by decide +kernel)
theorem wd1704 : (Jvm.Cond.methodLink "TelegramFeelingsModel" (410 : Nat) ({ cls := "TelegramFeelingsModel", name := "erring", desc := "(II)I" } : Jvm.MethodName)) ∈ TB := tb 1704 (by decide +kernel) (by decide +kernel)
theorem wd1706 : (Jvm.Cond.instanceMethod ({ cls := "TelegramFeelingsModel", name := "erring", desc := "(II)I" } : Jvm.MethodName)) ∈ TB := tb 1706 (by decide +kernel) (by decide +kernel)
theorem wd1707 : (Jvm.Cond.code ({ cls := "TelegramFeelingsModel", name := "erring", desc := "(II)I" } : Jvm.MethodName) prog_12_method_100_code (4 : Nat) (Option.some Jvm.ClassFile.FieldType.int)) ∈ TB := tb 1707 (by decide +kernel) (by decide +kernel)
theorem wd1708 : (Jvm.Cond.methodLink "TelegramFeelingsModel" (416 : Nat) ({ cls := "TelegramFeelingsModel", name := "stopErrs", desc := "(II)I" } : Jvm.MethodName)) ∈ TB := tb 1708 (by decide +kernel) (by decide +kernel)
theorem wd1710 : (Jvm.Cond.instanceMethod ({ cls := "TelegramFeelingsModel", name := "stopErrs", desc := "(II)I" } : Jvm.MethodName)) ∈ TB := tb 1710 (by decide +kernel) (by decide +kernel)
theorem wd1711 : (Jvm.Cond.code ({ cls := "TelegramFeelingsModel", name := "stopErrs", desc := "(II)I" } : Jvm.MethodName) prog_12_method_99_code (3 : Nat) (Option.some Jvm.ClassFile.FieldType.int)) ∈ TB := tb 1711 (by decide +kernel) (by decide +kernel)
theorem wd1712 : (Jvm.Cond.methodLink "TelegramFeelingsModel" (413 : Nat) ({ cls := "TelegramFeelingsModel", name := "plainErrs", desc := "(II)I" } : Jvm.MethodName)) ∈ TB := tb 1712 (by decide +kernel) (by decide +kernel)
theorem wd1714 : (Jvm.Cond.instanceMethod ({ cls := "TelegramFeelingsModel", name := "plainErrs", desc := "(II)I" } : Jvm.MethodName)) ∈ TB := tb 1714 (by decide +kernel) (by decide +kernel)
theorem wd1715 : (Jvm.Cond.code ({ cls := "TelegramFeelingsModel", name := "plainErrs", desc := "(II)I" } : Jvm.MethodName) prog_12_method_98_code (3 : Nat) (Option.some Jvm.ClassFile.FieldType.int)) ∈ TB := tb 1715 (by decide +kernel) (by decide +kernel)
theorem wd1716 : (Jvm.Cond.methodLink "TelegramFeelingsModel" (428 : Nat) ({ cls := "TelegramFeelingsModel", name := "telling", desc := "(II)I" } : Jvm.MethodName)) ∈ TB := tb 1716 (by decide +kernel) (by decide +kernel)
theorem wd1718 : (Jvm.Cond.instanceMethod ({ cls := "TelegramFeelingsModel", name := "telling", desc := "(II)I" } : Jvm.MethodName)) ∈ TB := tb 1718 (by decide +kernel) (by decide +kernel)
theorem wd1719 : (Jvm.Cond.code ({ cls := "TelegramFeelingsModel", name := "telling", desc := "(II)I" } : Jvm.MethodName) prog_12_method_102_code (3 : Nat) (Option.some Jvm.ClassFile.FieldType.int)) ∈ TB := tb 1719 (by decide +kernel) (by decide +kernel)
theorem wd1720 : (Jvm.Cond.methodLink "TelegramFeelingsModel" (422 : Nat) ({ cls := "TelegramFeelingsModel", name := "plainTells", desc := "(II)I" } : Jvm.MethodName)) ∈ TB := tb 1720 (by decide +kernel) (by decide +kernel)
theorem wd1722 : (Jvm.Cond.instanceMethod ({ cls := "TelegramFeelingsModel", name := "plainTells", desc := "(II)I" } : Jvm.MethodName)) ∈ TB := tb 1722 (by decide +kernel) (by decide +kernel)
theorem wd1723 : (Jvm.Cond.code ({ cls := "TelegramFeelingsModel", name := "plainTells", desc := "(II)I" } : Jvm.MethodName) prog_12_method_101_code (4 : Nat) (Option.some Jvm.ClassFile.FieldType.int)) ∈ TB := tb 1723 (by decide +kernel) (by decide +kernel)
theorem wd1724 : (Jvm.Cond.methodLink "TelegramFeelingsLaw" (179 : Nat) ({ cls := "TelegramFeelingsModel", name := "count", desc := "(I)I" } : Jvm.MethodName)) ∈ TB := tb 1724 (by decide +kernel) (by decide +kernel)
theorem wd1725 : (Jvm.Cond.instanceMethod ({ cls := "TelegramFeelingsModel", name := "count", desc := "(I)I" } : Jvm.MethodName)) ∈ TB := tb 1725 (by decide +kernel) (by decide +kernel)
theorem wd1726 : (Jvm.Cond.selects "TelegramFeelingsModel" ({ cls := "TelegramFeelingsModel", name := "count", desc := "(I)I" } : Jvm.MethodName) ({ cls := "TelegramFeelingsModel", name := "count", desc := "(I)I" } : Jvm.MethodName)) ∈ TB := tb 1726 (by decide +kernel) (by decide +kernel)
theorem wd1727 : (Jvm.Cond.code ({ cls := "TelegramFeelingsModel", name := "count", desc := "(I)I" } : Jvm.MethodName) prog_12_method_104_code (2 : Nat) (Option.some Jvm.ClassFile.FieldType.int)) ∈ TB := tb 1727 (by decide +kernel) (by decide +kernel)
theorem wd1728 : (Jvm.Cond.methodLink "TelegramFeelingsLaw" (151 : Nat) ({ cls := "TelegramFeelingsModel", name := "keep", desc := "(II)I" } : Jvm.MethodName)) ∈ TB := tb 1728 (by decide +kernel) (by decide +kernel)
theorem wd1729 : (Jvm.Cond.instanceMethod ({ cls := "TelegramFeelingsModel", name := "keep", desc := "(II)I" } : Jvm.MethodName)) ∈ TB := tb 1729 (by decide +kernel) (by decide +kernel)
theorem wd1730 : (Jvm.Cond.selects "TelegramFeelingsModel" ({ cls := "TelegramFeelingsModel", name := "keep", desc := "(II)I" } : Jvm.MethodName) ({ cls := "TelegramFeelingsModel", name := "keep", desc := "(II)I" } : Jvm.MethodName)) ∈ TB := tb 1730 (by decide +kernel) (by decide +kernel)
theorem wd1731 : (Jvm.Cond.code ({ cls := "TelegramFeelingsModel", name := "keep", desc := "(II)I" } : Jvm.MethodName) prog_12_method_106_code (3 : Nat) (Option.some Jvm.ClassFile.FieldType.int)) ∈ TB := tb 1731 (by decide +kernel) (by decide +kernel)
theorem wd1732 : (Jvm.Cond.methodLink "TelegramFeelingsLaw" (155 : Nat) ({ cls := "TelegramFeelingsModel", name := "row", desc := "(III)I" } : Jvm.MethodName)) ∈ TB := tb 1732 (by decide +kernel) (by decide +kernel)
theorem wd1733 : (Jvm.Cond.instanceMethod ({ cls := "TelegramFeelingsModel", name := "row", desc := "(III)I" } : Jvm.MethodName)) ∈ TB := tb 1733 (by decide +kernel) (by decide +kernel)
theorem wd1734 : (Jvm.Cond.selects "TelegramFeelingsModel" ({ cls := "TelegramFeelingsModel", name := "row", desc := "(III)I" } : Jvm.MethodName) ({ cls := "TelegramFeelingsModel", name := "row", desc := "(III)I" } : Jvm.MethodName)) ∈ TB := tb 1734 (by decide +kernel) (by decide +kernel)
theorem wd1735 : (Jvm.Cond.code ({ cls := "TelegramFeelingsModel", name := "row", desc := "(III)I" } : Jvm.MethodName) prog_12_method_107_code (5 : Nat) (Option.some Jvm.ClassFile.FieldType.int)) ∈ TB := tb 1735 (by decide +kernel) (by decide +kernel)
theorem wd1736 : (Jvm.Cond.methodLink "TelegramFeelingsLaw" (162 : Nat) ({ cls := "TelegramFeelingsModel", name := "put", desc := "(IIJ)I" } : Jvm.MethodName)) ∈ TB := tb 1736 (by decide +kernel) (by decide +kernel)
theorem wd1737 : (Jvm.Cond.instanceMethod ({ cls := "TelegramFeelingsModel", name := "put", desc := "(IIJ)I" } : Jvm.MethodName)) ∈ TB := tb 1737 (by decide +kernel) (by decide +kernel)
theorem wd1738 : (Jvm.Cond.selects "TelegramFeelingsModel" ({ cls := "TelegramFeelingsModel", name := "put", desc := "(IIJ)I" } : Jvm.MethodName) ({ cls := "TelegramFeelingsModel", name := "put", desc := "(IIJ)I" } : Jvm.MethodName)) ∈ TB := tb 1738 (by decide +kernel) (by decide +kernel)
theorem wd1739 : (Jvm.Cond.code ({ cls := "TelegramFeelingsModel", name := "put", desc := "(IIJ)I" } : Jvm.MethodName) prog_12_method_109_code (7 : Nat) (Option.some Jvm.ClassFile.FieldType.int)) ∈ TB := tb 1739 (by decide +kernel) (by decide +kernel)
theorem wd1740 : (Jvm.Cond.methodLink "TelegramFeelingsModel" (431 : Nat) ({ cls := "TelegramFeelingsModel", name := "whyNoPlace", desc := "(II)I" } : Jvm.MethodName)) ∈ TB := tb 1740 (by decide +kernel) (by decide +kernel)
theorem wd1742 : (Jvm.Cond.instanceMethod ({ cls := "TelegramFeelingsModel", name := "whyNoPlace", desc := "(II)I" } : Jvm.MethodName)) ∈ TB := tb 1742 (by decide +kernel) (by decide +kernel)
theorem wd1743 : (Jvm.Cond.code ({ cls := "TelegramFeelingsModel", name := "whyNoPlace", desc := "(II)I" } : Jvm.MethodName) prog_12_method_108_code (3 : Nat) (Option.some Jvm.ClassFile.FieldType.int)) ∈ TB := tb 1743 (by decide +kernel) (by decide +kernel)
theorem wd1744 : (Jvm.Cond.methodLink "TelegramFeelingsLaw" (166 : Nat) ({ cls := "TelegramFeelingsModel", name := "element", desc := "(II)J" } : Jvm.MethodName)) ∈ TB := tb 1744 (by decide +kernel) (by decide +kernel)
theorem wd1745 : (Jvm.Cond.instanceMethod ({ cls := "TelegramFeelingsModel", name := "element", desc := "(II)J" } : Jvm.MethodName)) ∈ TB := tb 1745 (by decide +kernel) (by decide +kernel)
theorem wd1746 : (Jvm.Cond.selects "TelegramFeelingsModel" ({ cls := "TelegramFeelingsModel", name := "element", desc := "(II)J" } : Jvm.MethodName) ({ cls := "TelegramFeelingsModel", name := "element", desc := "(II)J" } : Jvm.MethodName)) ∈ TB := tb 1746 (by decide +kernel) (by decide +kernel)
theorem wd1747 : (Jvm.Cond.code ({ cls := "TelegramFeelingsModel", name := "element", desc := "(II)J" } : Jvm.MethodName) prog_12_method_110_code (3 : Nat) (Option.some Jvm.ClassFile.FieldType.long)) ∈ TB := tb 1747 (by decide +kernel) (by decide +kernel)
theorem wd1748 : (Jvm.Cond.methodLink "TelegramFeelingsLaw" (171 : Nat) ({ cls := "TelegramFeelingsModel", name := "shift", desc := "(IIIII)I" } : Jvm.MethodName)) ∈ TB := tb 1748 (by decide +kernel) (by decide +kernel)
theorem wd1749 : (Jvm.Cond.instanceMethod ({ cls := "TelegramFeelingsModel", name := "shift", desc := "(IIIII)I" } : Jvm.MethodName)) ∈ TB := tb 1749 (by decide +kernel) (by decide +kernel)
theorem wd1750 : (Jvm.Cond.selects "TelegramFeelingsModel" ({ cls := "TelegramFeelingsModel", name := "shift", desc := "(IIIII)I" } : Jvm.MethodName) ({ cls := "TelegramFeelingsModel", name := "shift", desc := "(IIIII)I" } : Jvm.MethodName)) ∈ TB := tb 1750 (by decide +kernel) (by decide +kernel)
theorem wd1751 : (Jvm.Cond.code ({ cls := "TelegramFeelingsModel", name := "shift", desc := "(IIIII)I" } : Jvm.MethodName) prog_12_method_111_code (7 : Nat) (Option.some Jvm.ClassFile.FieldType.int)) ∈ TB := tb 1751 (by decide +kernel) (by decide +kernel)
theorem wd1752 : (Jvm.Cond.methodLink "TelegramFeelingsLaw" (175 : Nat) ({ cls := "TelegramFeelingsModel", name := "taken", desc := "(II)I" } : Jvm.MethodName)) ∈ TB := tb 1752 (by decide +kernel) (by decide +kernel)
theorem wd1753 : (Jvm.Cond.instanceMethod ({ cls := "TelegramFeelingsModel", name := "taken", desc := "(II)I" } : Jvm.MethodName)) ∈ TB := tb 1753 (by decide +kernel) (by decide +kernel)
theorem wd1754 : (Jvm.Cond.selects "TelegramFeelingsModel" ({ cls := "TelegramFeelingsModel", name := "taken", desc := "(II)I" } : Jvm.MethodName) ({ cls := "TelegramFeelingsModel", name := "taken", desc := "(II)I" } : Jvm.MethodName)) ∈ TB := tb 1754 (by decide +kernel) (by decide +kernel)
theorem wd1755 : (Jvm.Cond.code ({ cls := "TelegramFeelingsModel", name := "taken", desc := "(II)I" } : Jvm.MethodName) prog_12_method_112_code (3 : Nat) (Option.some Jvm.ClassFile.FieldType.int)) ∈ TB := tb 1755 (by decide +kernel) (by decide +kernel)
theorem wd1756 : (Jvm.Cond.constantLong "TelegramFeelingsLaw" (156 : Nat) (4294967295 : Int64)) ∈ TB := tb 1756 (by decide +kernel) (by decide +kernel)
theorem wd1757 : (Jvm.Cond.fieldLink "java/lang/String" (9 : Nat) "java/lang/String" "value" "[B") ∈ TB := tb 1757 (by decide +kernel) (by decide +kernel)
theorem wd1758 : (Jvm.Cond.fieldLink "java/lang/String" (15 : Nat) "java/lang/String" "coder" "B") ∈ TB := tb 1758 (by decide +kernel) (by decide +kernel)
theorem wd0 : (Jvm.Cond.selects "TelegramFeelings" ⟨"TelegramFeelings", "wordFrom", "(II)Z"⟩ ⟨"TelegramFeelings", "wordFrom", "(II)Z"⟩) ∈ TB := tb 0 (by decide +kernel) (by decide +kernel)
theorem wd1 : (Jvm.Cond.selects "TelegramFeelings$Changes" ⟨"TelegramFeelings$Changes", "dropFirst", "()V"⟩ ⟨"TelegramFeelings$Changes", "dropFirst", "()V"⟩) ∈ TB := tb 1 (by decide +kernel) (by decide +kernel)
theorem wd2 : (Jvm.Cond.selects "TelegramFeelings$Law" ⟨"TelegramFeelings$Law", "readText", "()Z"⟩ ⟨"TelegramFeelings$Law", "readText", "()Z"⟩) ∈ TB := tb 2 (by decide +kernel) (by decide +kernel)
theorem wd3 : (Jvm.Cond.selects "TelegramFeelings$Law" ⟨"TelegramFeelings$Law", "readLine", "()Z"⟩ ⟨"TelegramFeelings$Law", "readLine", "()Z"⟩) ∈ TB := tb 3 (by decide +kernel) (by decide +kernel)
theorem wd4 : (Jvm.Cond.selects "TelegramFeelings$Law" ⟨"TelegramFeelings$Law", "readEither", "(I)Z"⟩ ⟨"TelegramFeelings$Law", "readEither", "(I)Z"⟩) ∈ TB := tb 4 (by decide +kernel) (by decide +kernel)
theorem wd5 : (Jvm.Cond.selects "TelegramFeelings$Law" ⟨"TelegramFeelings$Law", "readBoth", "(I)Z"⟩ ⟨"TelegramFeelings$Law", "readBoth", "(I)Z"⟩) ∈ TB := tb 5 (by decide +kernel) (by decide +kernel)
theorem wd6 : (Jvm.Cond.selects "TelegramFeelings$Law" ⟨"TelegramFeelings$Law", "readCompared", "(I)Z"⟩ ⟨"TelegramFeelings$Law", "readCompared", "(I)Z"⟩) ∈ TB := tb 6 (by decide +kernel) (by decide +kernel)
theorem wd7 : (Jvm.Cond.selects "TelegramFeelings$Law" ⟨"TelegramFeelings$Law", "readSum", "(I)Z"⟩ ⟨"TelegramFeelings$Law", "readSum", "(I)Z"⟩) ∈ TB := tb 7 (by decide +kernel) (by decide +kernel)
theorem wd8 : (Jvm.Cond.selects "TelegramFeelings$Law" ⟨"TelegramFeelings$Law", "readProduct", "(I)Z"⟩ ⟨"TelegramFeelings$Law", "readProduct", "(I)Z"⟩) ∈ TB := tb 8 (by decide +kernel) (by decide +kernel)
theorem wd9 : (Jvm.Cond.selects "TelegramFeelings$Law" ⟨"TelegramFeelings$Law", "readOperand", "(I)Z"⟩ ⟨"TelegramFeelings$Law", "readOperand", "(I)Z"⟩) ∈ TB := tb 9 (by decide +kernel) (by decide +kernel)
theorem wd10 : (Jvm.Cond.selects "TelegramFeelings$Law" ⟨"TelegramFeelings$Law", "next", "()I"⟩ ⟨"TelegramFeelings$Law", "next", "()I"⟩) ∈ TB := tb 10 (by decide +kernel) (by decide +kernel)
theorem wd11 : (Jvm.Cond.selects "TelegramFeelings$Law" ⟨"TelegramFeelings$Law", "readNumber", "()V"⟩ ⟨"TelegramFeelings$Law", "readNumber", "()V"⟩) ∈ TB := tb 11 (by decide +kernel) (by decide +kernel)
theorem wd12 : (Jvm.Cond.selects "TelegramFeelings$Law" ⟨"TelegramFeelings$Law", "emit", "(I)V"⟩ ⟨"TelegramFeelings$Law", "emit", "(I)V"⟩) ∈ TB := tb 12 (by decide +kernel) (by decide +kernel)
theorem wd13 : (Jvm.Cond.selects "TelegramFeelings$Law" ⟨"TelegramFeelings$Law", "takes", "(I)Z"⟩ ⟨"TelegramFeelings$Law", "takes", "(I)Z"⟩) ∈ TB := tb 13 (by decide +kernel) (by decide +kernel)
theorem wd14 : (Jvm.Cond.selects "TelegramFeelings$Law" ⟨"TelegramFeelings$Law", "worked", "()I"⟩ ⟨"TelegramFeelings$Law", "worked", "()I"⟩) ∈ TB := tb 14 (by decide +kernel) (by decide +kernel)
theorem wd15 : (Jvm.Cond.selects "TelegramFeelings$Law" ⟨"TelegramFeelings$Law", "push", "(I)V"⟩ ⟨"TelegramFeelings$Law", "push", "(I)V"⟩) ∈ TB := tb 15 (by decide +kernel) (by decide +kernel)
theorem wd16 : (Jvm.Cond.selects "TelegramFeelings$Law" ⟨"TelegramFeelings$Law", "pop", "()I"⟩ ⟨"TelegramFeelings$Law", "pop", "()I"⟩) ∈ TB := tb 16 (by decide +kernel) (by decide +kernel)
theorem wd17 : (Jvm.Cond.selects "TelegramFeelings" ⟨"TelegramFeelings", "opened", "(I)I"⟩ ⟨"TelegramFeelings", "opened", "(I)I"⟩) ∈ TB := tb 17 (by decide +kernel) (by decide +kernel)
theorem wd18 : (Jvm.Cond.selects "TelegramFeelings$Telegram" ⟨"TelegramFeelings$Telegram", "joined", "()I"⟩ ⟨"TelegramFeelings$Telegram", "joined", "()I"⟩) ∈ TB := tb 18 (by decide +kernel) (by decide +kernel)
theorem wd19 : (Jvm.Cond.selects "TelegramFeelings$Sayings" ⟨"TelegramFeelings$Sayings", "refresh", "()V"⟩ ⟨"TelegramFeelings$Sayings", "refresh", "()V"⟩) ∈ TB := tb 19 (by decide +kernel) (by decide +kernel)
theorem wd20 : (Jvm.Cond.selects "TelegramFeelings$Sayings" ⟨"TelegramFeelings$Sayings", "lengthen", "(III)V"⟩ ⟨"TelegramFeelings$Sayings", "lengthen", "(III)V"⟩) ∈ TB := tb 20 (by decide +kernel) (by decide +kernel)
theorem wd21 : (Jvm.Cond.selects "TelegramFeelings$Sayings" ⟨"TelegramFeelings$Sayings", "settle", "(I)V"⟩ ⟨"TelegramFeelings$Sayings", "settle", "(I)V"⟩) ∈ TB := tb 21 (by decide +kernel) (by decide +kernel)
theorem wd22 : (Jvm.Cond.selects "TelegramFeelings$Sayings" ⟨"TelegramFeelings$Sayings", "isFor", "(II)Z"⟩ ⟨"TelegramFeelings$Sayings", "isFor", "(II)Z"⟩) ∈ TB := tb 22 (by decide +kernel) (by decide +kernel)
theorem wd23 : (Jvm.Cond.selects "TelegramFeelings" ⟨"TelegramFeelings", "bestYear", "(II)I"⟩ ⟨"TelegramFeelings", "bestYear", "(II)I"⟩) ∈ TB := tb 23 (by decide +kernel) (by decide +kernel)
theorem wd24 : (Jvm.Cond.selects "TelegramFeelings" ⟨"TelegramFeelings", "offersOn", "(I)I"⟩ ⟨"TelegramFeelings", "offersOn", "(I)I"⟩) ∈ TB := tb 24 (by decide +kernel) (by decide +kernel)
theorem wd25 : (Jvm.Cond.selects "TelegramFeelings" ⟨"TelegramFeelings", "sumOf", "(III)I"⟩ ⟨"TelegramFeelings", "sumOf", "(III)I"⟩) ∈ TB := tb 25 (by decide +kernel) (by decide +kernel)
theorem wd26 : (Jvm.Cond.selects "TelegramFeelings$Hearing" ⟨"TelegramFeelings$Hearing", "begin", "()V"⟩ ⟨"TelegramFeelings$Hearing", "begin", "()V"⟩) ∈ TB := tb 26 (by decide +kernel) (by decide +kernel)
theorem wd27 : (Jvm.Cond.selects "TelegramFeelings$Hearing" ⟨"TelegramFeelings$Hearing", "size", "()I"⟩ ⟨"TelegramFeelings$Hearing", "size", "()I"⟩) ∈ TB := tb 27 (by decide +kernel) (by decide +kernel)
theorem wd28 : (Jvm.Cond.selects "TelegramFeelings$Hearing" ⟨"TelegramFeelings$Hearing", "oddsOf", "(II)I"⟩ ⟨"TelegramFeelings$Hearing", "oddsOf", "(II)I"⟩) ∈ TB := tb 28 (by decide +kernel) (by decide +kernel)
theorem wd29 : (Jvm.Cond.selects "TelegramFeelings$Hearing" ⟨"TelegramFeelings$Hearing", "addWord", "(II)V"⟩ ⟨"TelegramFeelings$Hearing", "addWord", "(II)V"⟩) ∈ TB := tb 29 (by decide +kernel) (by decide +kernel)
theorem wd30 : (Jvm.Cond.selects "TelegramFeelings$Hearing" ⟨"TelegramFeelings$Hearing", "swap", "()V"⟩ ⟨"TelegramFeelings$Hearing", "swap", "()V"⟩) ∈ TB := tb 30 (by decide +kernel) (by decide +kernel)
theorem wd31 : (Jvm.Cond.selects "TelegramFeelings$Hearing" ⟨"TelegramFeelings$Hearing", "tryWord", "(II)V"⟩ ⟨"TelegramFeelings$Hearing", "tryWord", "(II)V"⟩) ∈ TB := tb 31 (by decide +kernel) (by decide +kernel)
theorem wd32 : (Jvm.Cond.selects "TelegramFeelings$Hearing" ⟨"TelegramFeelings$Hearing", "senseWith", "(I)I"⟩ ⟨"TelegramFeelings$Hearing", "senseWith", "(I)I"⟩) ∈ TB := tb 32 (by decide +kernel) (by decide +kernel)
theorem wd33 : (Jvm.Cond.selects "TelegramFeelings$Hearing" ⟨"TelegramFeelings$Hearing", "oddsWith", "(I)J"⟩ ⟨"TelegramFeelings$Hearing", "oddsWith", "(I)J"⟩) ∈ TB := tb 33 (by decide +kernel) (by decide +kernel)
theorem wd34 : (Jvm.Cond.selects "TelegramFeelings" ⟨"TelegramFeelings", "maySend", "(III)Z"⟩ ⟨"TelegramFeelings", "maySend", "(III)Z"⟩) ∈ TB := tb 34 (by decide +kernel) (by decide +kernel)
theorem wd35 : (Jvm.Cond.selects "TelegramFeelings" ⟨"TelegramFeelings", "shareOf", "(III)I"⟩ ⟨"TelegramFeelings", "shareOf", "(III)I"⟩) ∈ TB := tb 35 (by decide +kernel) (by decide +kernel)
theorem wd36 : (Jvm.Cond.selects "TelegramFeelings" ⟨"TelegramFeelings", "wordless", "()I"⟩ ⟨"TelegramFeelings", "wordless", "()I"⟩) ∈ TB := tb 36 (by decide +kernel) (by decide +kernel)
theorem wd37 : (Jvm.Cond.selects "TelegramFeelings" ⟨"TelegramFeelings", "dearest", "()I"⟩ ⟨"TelegramFeelings", "dearest", "()I"⟩) ∈ TB := tb 37 (by decide +kernel) (by decide +kernel)
theorem wd38 : (Jvm.Cond.selects "TelegramFeelings$Bodies" ⟨"TelegramFeelings$Bodies", "says", "(II)I"⟩ ⟨"TelegramFeelings$Bodies", "says", "(II)I"⟩) ∈ TB := tb 38 (by decide +kernel) (by decide +kernel)
theorem wd39 : (Jvm.Cond.selects "TelegramFeelings$Bodies" ⟨"TelegramFeelings$Bodies", "begins", "(I)V"⟩ ⟨"TelegramFeelings$Bodies", "begins", "(I)V"⟩) ∈ TB := tb 39 (by decide +kernel) (by decide +kernel)
theorem wd40 : (Jvm.Cond.selects "TelegramFeelings$Bodies" ⟨"TelegramFeelings$Bodies", "costs", "(II)I"⟩ ⟨"TelegramFeelings$Bodies", "costs", "(II)I"⟩) ∈ TB := tb 40 (by decide +kernel) (by decide +kernel)
theorem wd41 : (Jvm.Cond.selects "TelegramFeelings$Bodies" ⟨"TelegramFeelings$Bodies", "errs", "(II)I"⟩ ⟨"TelegramFeelings$Bodies", "errs", "(II)I"⟩) ∈ TB := tb 41 (by decide +kernel) (by decide +kernel)
theorem wd42 : (Jvm.Cond.selects "TelegramFeelings$Bodies" ⟨"TelegramFeelings$Bodies", "tells", "(II)I"⟩ ⟨"TelegramFeelings$Bodies", "tells", "(II)I"⟩) ∈ TB := tb 42 (by decide +kernel) (by decide +kernel)
theorem wd43 : (Jvm.Cond.selects "TelegramFeelingsModel" ⟨"TelegramFeelingsModel", "addWord", "(III)I"⟩ ⟨"TelegramFeelingsModel", "addWord", "(III)I"⟩) ∈ TB := tb 43 (by decide +kernel) (by decide +kernel)
theorem wd44 : (Jvm.Cond.selects "TelegramFeelingsModel" ⟨"TelegramFeelingsModel", "lays", "(III)V"⟩ ⟨"TelegramFeelingsModel", "lays", "(III)V"⟩) ∈ TB := tb 44 (by decide +kernel) (by decide +kernel)
theorem wd45 : (Jvm.Cond.selects "TelegramFeelingsModel" ⟨"TelegramFeelingsModel", "isOne", "(II)Z"⟩ ⟨"TelegramFeelingsModel", "isOne", "(II)Z"⟩) ∈ TB := tb 45 (by decide +kernel) (by decide +kernel)
theorem wd46 : (Jvm.Cond.selects "TelegramFeelingsModel" ⟨"TelegramFeelingsModel", "isWord", "(I)Z"⟩ ⟨"TelegramFeelingsModel", "isWord", "(I)Z"⟩) ∈ TB := tb 46 (by decide +kernel) (by decide +kernel)
theorem wd47 : (Jvm.Cond.selects "TelegramFeelingsModel" ⟨"TelegramFeelingsModel", "isPerson", "(I)Z"⟩ ⟨"TelegramFeelingsModel", "isPerson", "(I)Z"⟩) ∈ TB := tb 47 (by decide +kernel) (by decide +kernel)
theorem wd48 : (Jvm.Cond.selects "TelegramFeelingsModel" ⟨"TelegramFeelingsModel", "mayHave", "(II)Z"⟩ ⟨"TelegramFeelingsModel", "mayHave", "(II)Z"⟩) ∈ TB := tb 48 (by decide +kernel) (by decide +kernel)
theorem wd49 : (Jvm.Cond.selects "TelegramFeelingsModel" ⟨"TelegramFeelingsModel", "changes", "(III)I"⟩ ⟨"TelegramFeelingsModel", "changes", "(III)I"⟩) ∈ TB := tb 49 (by decide +kernel) (by decide +kernel)
theorem wd50 : (Jvm.Cond.selects "TelegramFeelingsModel" ⟨"TelegramFeelingsModel", "valueAt", "(II)I"⟩ ⟨"TelegramFeelingsModel", "valueAt", "(II)I"⟩) ∈ TB := tb 50 (by decide +kernel) (by decide +kernel)
theorem wd51 : (Jvm.Cond.selects "TelegramFeelingsModel" ⟨"TelegramFeelingsModel", "readText", "(I)I"⟩ ⟨"TelegramFeelingsModel", "readText", "(I)I"⟩) ∈ TB := tb 51 (by decide +kernel) (by decide +kernel)
theorem wd52 : (Jvm.Cond.selects "TelegramFeelingsModel" ⟨"TelegramFeelingsModel", "line", "()V"⟩ ⟨"TelegramFeelingsModel", "line", "()V"⟩) ∈ TB := tb 52 (by decide +kernel) (by decide +kernel)
theorem wd53 : (Jvm.Cond.selects "TelegramFeelingsModel" ⟨"TelegramFeelingsModel", "either", "()V"⟩ ⟨"TelegramFeelingsModel", "either", "()V"⟩) ∈ TB := tb 53 (by decide +kernel) (by decide +kernel)
theorem wd54 : (Jvm.Cond.selects "TelegramFeelingsModel" ⟨"TelegramFeelingsModel", "both", "()V"⟩ ⟨"TelegramFeelingsModel", "both", "()V"⟩) ∈ TB := tb 54 (by decide +kernel) (by decide +kernel)
theorem wd55 : (Jvm.Cond.selects "TelegramFeelingsModel" ⟨"TelegramFeelingsModel", "compared", "()V"⟩ ⟨"TelegramFeelingsModel", "compared", "()V"⟩) ∈ TB := tb 55 (by decide +kernel) (by decide +kernel)
theorem wd56 : (Jvm.Cond.selects "TelegramFeelingsModel" ⟨"TelegramFeelingsModel", "sum", "()V"⟩ ⟨"TelegramFeelingsModel", "sum", "()V"⟩) ∈ TB := tb 56 (by decide +kernel) (by decide +kernel)
theorem wd57 : (Jvm.Cond.selects "TelegramFeelingsModel" ⟨"TelegramFeelingsModel", "product", "()V"⟩ ⟨"TelegramFeelingsModel", "product", "()V"⟩) ∈ TB := tb 57 (by decide +kernel) (by decide +kernel)
theorem wd58 : (Jvm.Cond.selects "TelegramFeelingsModel" ⟨"TelegramFeelingsModel", "operand", "()V"⟩ ⟨"TelegramFeelingsModel", "operand", "()V"⟩) ∈ TB := tb 58 (by decide +kernel) (by decide +kernel)
theorem wd59 : (Jvm.Cond.selects "TelegramFeelingsModel" ⟨"TelegramFeelingsModel", "look", "()I"⟩ ⟨"TelegramFeelingsModel", "look", "()I"⟩) ∈ TB := tb 59 (by decide +kernel) (by decide +kernel)
theorem wd60 : (Jvm.Cond.selects "TelegramFeelingsModel" ⟨"TelegramFeelingsModel", "addStep", "(II)V"⟩ ⟨"TelegramFeelingsModel", "addStep", "(II)V"⟩) ∈ TB := tb 60 (by decide +kernel) (by decide +kernel)
theorem wd61 : (Jvm.Cond.selects "TelegramFeelingsModel" ⟨"TelegramFeelingsModel", "opens", "()Z"⟩ ⟨"TelegramFeelingsModel", "opens", "()Z"⟩) ∈ TB := tb 61 (by decide +kernel) (by decide +kernel)
theorem wd62 : (Jvm.Cond.selects "TelegramFeelingsModel" ⟨"TelegramFeelingsModel", "wrong", "()V"⟩ ⟨"TelegramFeelingsModel", "wrong", "()V"⟩) ∈ TB := tb 62 (by decide +kernel) (by decide +kernel)
theorem wd63 : (Jvm.Cond.selects "TelegramFeelingsModel" ⟨"TelegramFeelingsModel", "figure", "()V"⟩ ⟨"TelegramFeelingsModel", "figure", "()V"⟩) ∈ TB := tb 63 (by decide +kernel) (by decide +kernel)
theorem wd64 : (Jvm.Cond.selects "TelegramFeelingsModel" ⟨"TelegramFeelingsModel", "priceIn", "(III)I"⟩ ⟨"TelegramFeelingsModel", "priceIn", "(III)I"⟩) ∈ TB := tb 64 (by decide +kernel) (by decide +kernel)
theorem wd65 : (Jvm.Cond.selects "TelegramFeelingsModel" ⟨"TelegramFeelingsModel", "gives", "(I)I"⟩ ⟨"TelegramFeelingsModel", "gives", "(I)I"⟩) ∈ TB := tb 65 (by decide +kernel) (by decide +kernel)
theorem wd66 : (Jvm.Cond.selects "TelegramFeelingsModel" ⟨"TelegramFeelingsModel", "worked", "(III)I"⟩ ⟨"TelegramFeelingsModel", "worked", "(III)I"⟩) ∈ TB := tb 66 (by decide +kernel) (by decide +kernel)
theorem wd67 : (Jvm.Cond.selects "TelegramFeelingsModel" ⟨"TelegramFeelingsModel", "rowFault", "(II)I"⟩ ⟨"TelegramFeelingsModel", "rowFault", "(II)I"⟩) ∈ TB := tb 67 (by decide +kernel) (by decide +kernel)
theorem wd68 : (Jvm.Cond.selects "TelegramFeelingsModel" ⟨"TelegramFeelingsModel", "layWired", "(I)V"⟩ ⟨"TelegramFeelingsModel", "layWired", "(I)V"⟩) ∈ TB := tb 68 (by decide +kernel) (by decide +kernel)
theorem wd69 : (Jvm.Cond.selects "TelegramFeelingsModel" ⟨"TelegramFeelingsModel", "at", "(II)I"⟩ ⟨"TelegramFeelingsModel", "at", "(II)I"⟩) ∈ TB := tb 69 (by decide +kernel) (by decide +kernel)
theorem wd70 : (Jvm.Cond.selects "TelegramFeelingsModel" ⟨"TelegramFeelingsModel", "findJoined", "()V"⟩ ⟨"TelegramFeelingsModel", "findJoined", "()V"⟩) ∈ TB := tb 70 (by decide +kernel) (by decide +kernel)
theorem wd71 : (Jvm.Cond.selects "TelegramFeelingsModel" ⟨"TelegramFeelingsModel", "priceAt", "(I)I"⟩ ⟨"TelegramFeelingsModel", "priceAt", "(I)I"⟩) ∈ TB := tb 71 (by decide +kernel) (by decide +kernel)
theorem wd72 : (Jvm.Cond.selects "TelegramFeelingsModel" ⟨"TelegramFeelingsModel", "aheadOf", "(I)I"⟩ ⟨"TelegramFeelingsModel", "aheadOf", "(I)I"⟩) ∈ TB := tb 72 (by decide +kernel) (by decide +kernel)
theorem wd73 : (Jvm.Cond.selects "TelegramFeelingsModel" ⟨"TelegramFeelingsModel", "priceAll", "()I"⟩ ⟨"TelegramFeelingsModel", "priceAll", "()I"⟩) ∈ TB := tb 73 (by decide +kernel) (by decide +kernel)
theorem wd74 : (Jvm.Cond.selects "TelegramFeelingsModel" ⟨"TelegramFeelingsModel", "senseAll", "()I"⟩ ⟨"TelegramFeelingsModel", "senseAll", "()I"⟩) ∈ TB := tb 74 (by decide +kernel) (by decide +kernel)
theorem wd75 : (Jvm.Cond.selects "TelegramFeelingsModel" ⟨"TelegramFeelingsModel", "isRight", "()Z"⟩ ⟨"TelegramFeelingsModel", "isRight", "()Z"⟩) ∈ TB := tb 75 (by decide +kernel) (by decide +kernel)
theorem wd76 : (Jvm.Cond.selects "TelegramFeelingsModel" ⟨"TelegramFeelingsModel", "findSay", "(II)V"⟩ ⟨"TelegramFeelingsModel", "findSay", "(II)V"⟩) ∈ TB := tb 76 (by decide +kernel) (by decide +kernel)
theorem wd77 : (Jvm.Cond.selects "TelegramFeelingsModel" ⟨"TelegramFeelingsModel", "leastSay", "(IIII)I"⟩ ⟨"TelegramFeelingsModel", "leastSay", "(IIII)I"⟩) ∈ TB := tb 77 (by decide +kernel) (by decide +kernel)
theorem wd78 : (Jvm.Cond.selects "TelegramFeelingsModel" ⟨"TelegramFeelingsModel", "sayBy", "(IIIII)I"⟩ ⟨"TelegramFeelingsModel", "sayBy", "(IIIII)I"⟩) ∈ TB := tb 78 (by decide +kernel) (by decide +kernel)
theorem wd79 : (Jvm.Cond.selects "TelegramFeelingsModel" ⟨"TelegramFeelingsModel", "findLeast", "()V"⟩ ⟨"TelegramFeelingsModel", "findLeast", "()V"⟩) ∈ TB := tb 79 (by decide +kernel) (by decide +kernel)
theorem wd80 : (Jvm.Cond.selects "TelegramFeelingsModel" ⟨"TelegramFeelingsModel", "goPlace", "(I)V"⟩ ⟨"TelegramFeelingsModel", "goPlace", "(I)V"⟩) ∈ TB := tb 80 (by decide +kernel) (by decide +kernel)
theorem wd81 : (Jvm.Cond.selects "TelegramFeelingsModel" ⟨"TelegramFeelingsModel", "goFrom", "(IIII)V"⟩ ⟨"TelegramFeelingsModel", "goFrom", "(IIII)V"⟩) ∈ TB := tb 81 (by decide +kernel) (by decide +kernel)
theorem wd82 : (Jvm.Cond.selects "TelegramFeelingsModel" ⟨"TelegramFeelingsModel", "layFirst", "(I)V"⟩ ⟨"TelegramFeelingsModel", "layFirst", "(I)V"⟩) ∈ TB := tb 82 (by decide +kernel) (by decide +kernel)
theorem wd83 : (Jvm.Cond.selects "TelegramFeelingsModel" ⟨"TelegramFeelingsModel", "findErrors", "(I)V"⟩ ⟨"TelegramFeelingsModel", "findErrors", "(I)V"⟩) ∈ TB := tb 83 (by decide +kernel) (by decide +kernel)
theorem wd84 : (Jvm.Cond.selects "TelegramFeelingsModel" ⟨"TelegramFeelingsModel", "findPlace", "(IIII)V"⟩ ⟨"TelegramFeelingsModel", "findPlace", "(IIII)V"⟩) ∈ TB := tb 84 (by decide +kernel) (by decide +kernel)
theorem wd85 : (Jvm.Cond.selects "TelegramFeelingsModel" ⟨"TelegramFeelingsModel", "weightOf", "(II)I"⟩ ⟨"TelegramFeelingsModel", "weightOf", "(II)I"⟩) ∈ TB := tb 85 (by decide +kernel) (by decide +kernel)
theorem wd86 : (Jvm.Cond.selects "TelegramFeelingsModel" ⟨"TelegramFeelingsModel", "nextAt", "(IIII)I"⟩ ⟨"TelegramFeelingsModel", "nextAt", "(IIII)I"⟩) ∈ TB := tb 86 (by decide +kernel) (by decide +kernel)
theorem wd87 : (Jvm.Cond.selects "TelegramFeelingsModel" ⟨"TelegramFeelingsModel", "seenBy", "(II)I"⟩ ⟨"TelegramFeelingsModel", "seenBy", "(II)I"⟩) ∈ TB := tb 87 (by decide +kernel) (by decide +kernel)
theorem wd88 : (Jvm.Cond.selects "TelegramFeelingsModel" ⟨"TelegramFeelingsModel", "oddsWith", "(I)J"⟩ ⟨"TelegramFeelingsModel", "oddsWith", "(I)J"⟩) ∈ TB := tb 88 (by decide +kernel) (by decide +kernel)
theorem wd89 : (Jvm.Cond.selects "TelegramFeelingsModel" ⟨"TelegramFeelingsModel", "isBody", "(I)Z"⟩ ⟨"TelegramFeelingsModel", "isBody", "(I)Z"⟩) ∈ TB := tb 89 (by decide +kernel) (by decide +kernel)
theorem wd90 : (Jvm.Cond.selects "TelegramFeelingsModel" ⟨"TelegramFeelingsModel", "saying", "(II)I"⟩ ⟨"TelegramFeelingsModel", "saying", "(II)I"⟩) ∈ TB := tb 90 (by decide +kernel) (by decide +kernel)
theorem wd91 : (Jvm.Cond.selects "TelegramFeelingsModel" ⟨"TelegramFeelingsModel", "ran", "(I)V"⟩ ⟨"TelegramFeelingsModel", "ran", "(I)V"⟩) ∈ TB := tb 91 (by decide +kernel) (by decide +kernel)
theorem wd92 : (Jvm.Cond.selects "TelegramFeelingsModel" ⟨"TelegramFeelingsModel", "plainSays", "(II)I"⟩ ⟨"TelegramFeelingsModel", "plainSays", "(II)I"⟩) ∈ TB := tb 92 (by decide +kernel) (by decide +kernel)
theorem wd93 : (Jvm.Cond.selects "TelegramFeelingsModel" ⟨"TelegramFeelingsModel", "cowSays", "(II)I"⟩ ⟨"TelegramFeelingsModel", "cowSays", "(II)I"⟩) ∈ TB := tb 93 (by decide +kernel) (by decide +kernel)
theorem wd94 : (Jvm.Cond.selects "TelegramFeelingsModel" ⟨"TelegramFeelingsModel", "costing", "(II)I"⟩ ⟨"TelegramFeelingsModel", "costing", "(II)I"⟩) ∈ TB := tb 94 (by decide +kernel) (by decide +kernel)
theorem wd95 : (Jvm.Cond.selects "TelegramFeelingsModel" ⟨"TelegramFeelingsModel", "clerkCosts", "(II)I"⟩ ⟨"TelegramFeelingsModel", "clerkCosts", "(II)I"⟩) ∈ TB := tb 95 (by decide +kernel) (by decide +kernel)
theorem wd96 : (Jvm.Cond.selects "TelegramFeelingsModel" ⟨"TelegramFeelingsModel", "plainCosts", "(II)I"⟩ ⟨"TelegramFeelingsModel", "plainCosts", "(II)I"⟩) ∈ TB := tb 96 (by decide +kernel) (by decide +kernel)
theorem wd97 : (Jvm.Cond.selects "TelegramFeelingsModel" ⟨"TelegramFeelingsModel", "erring", "(II)I"⟩ ⟨"TelegramFeelingsModel", "erring", "(II)I"⟩) ∈ TB := tb 97 (by decide +kernel) (by decide +kernel)
theorem wd98 : (Jvm.Cond.selects "TelegramFeelingsModel" ⟨"TelegramFeelingsModel", "stopErrs", "(II)I"⟩ ⟨"TelegramFeelingsModel", "stopErrs", "(II)I"⟩) ∈ TB := tb 98 (by decide +kernel) (by decide +kernel)
theorem wd99 : (Jvm.Cond.selects "TelegramFeelingsModel" ⟨"TelegramFeelingsModel", "plainErrs", "(II)I"⟩ ⟨"TelegramFeelingsModel", "plainErrs", "(II)I"⟩) ∈ TB := tb 99 (by decide +kernel) (by decide +kernel)
theorem wd100 : (Jvm.Cond.selects "TelegramFeelingsModel" ⟨"TelegramFeelingsModel", "telling", "(II)I"⟩ ⟨"TelegramFeelingsModel", "telling", "(II)I"⟩) ∈ TB := tb 100 (by decide +kernel) (by decide +kernel)
theorem wd101 : (Jvm.Cond.selects "TelegramFeelingsModel" ⟨"TelegramFeelingsModel", "plainTells", "(II)I"⟩ ⟨"TelegramFeelingsModel", "plainTells", "(II)I"⟩) ∈ TB := tb 101 (by decide +kernel) (by decide +kernel)
theorem wd102 : (Jvm.Cond.selects "TelegramFeelingsModel" ⟨"TelegramFeelingsModel", "whyNoPlace", "(II)I"⟩ ⟨"TelegramFeelingsModel", "whyNoPlace", "(II)I"⟩) ∈ TB := tb 102 (by decide +kernel) (by decide +kernel)
theorem mwX0_init : MW yX0_init cX0_init 1 none := ⟨wd381, wd115⟩
theorem mwX0_add : MW yX0_add cX0_add 2 (some .int) := ⟨wd1027, wd115⟩
theorem miX0_add : MI yX0_add := ⟨wd1025, wd1026⟩
theorem mwX0_kindOf : MW yX0_kindOf cX0_kindOf 2 (some .int) := ⟨wd1039, wd115⟩
theorem miX0_kindOf : MI yX0_kindOf := ⟨wd1037, wd1038⟩
theorem mwX0_above : MW yX0_above cX0_above 1 (some .int) := ⟨wd1050, wd115⟩
theorem msX0_above : MS yX0_above := wd1049
theorem mwX0_isUnder : MW yX0_isUnder cX0_isUnder 4 (some .boolean) := ⟨wd1130, wd115⟩
theorem msX0_isUnder : MS yX0_isUnder := wd1129
theorem mwX0_ranAt : MW yX0_ranAt cX0_ranAt 2 (some .int) := ⟨wd1072, wd115⟩
theorem miX0_ranAt : MI yX0_ranAt := ⟨wd1070, wd1071⟩
theorem mwX0_runAct : MW yX0_runAct cX0_runAct 4 (some .int) := ⟨wd1035, wd115⟩
theorem miX0_runAct : MI yX0_runAct := ⟨wd1033, wd1034⟩
theorem mwX0_begins : MW yX0_begins cX0_begins 2 none := ⟨wd1047, wd115⟩
theorem miX0_begins : MI yX0_begins := ⟨wd1046, wd39⟩
theorem mwX0_says : MW yX0_says cX0_says 3 (some .int) := ⟨wd1043, wd115⟩
theorem miX0_says : MI yX0_says := ⟨wd1042, wd38⟩
theorem mwX0_costs : MW yX0_costs cX0_costs 4 (some .int) := ⟨wd1056, wd115⟩
theorem miX0_costs : MI yX0_costs := ⟨wd1055, wd40⟩
theorem mwX0_errs : MW yX0_errs cX0_errs 4 (some .int) := ⟨wd1060, wd115⟩
theorem miX0_errs : MI yX0_errs := ⟨wd1059, wd41⟩
theorem mwX0_tells : MW yX0_tells cX0_tells 4 (some .int) := ⟨wd1064, wd115⟩
theorem miX0_tells : MI yX0_tells := ⟨wd1063, wd42⟩
theorem mwX1_init : MW yX1_init cX1_init 2 none := ⟨wd352, wd114⟩
theorem mwX1_note : MW yX1_note cX1_note 5 none := ⟨wd505, wd114⟩
theorem miX1_note : MI yX1_note := ⟨wd503, wd504⟩
theorem mwX1_dropFirst : MW yX1_dropFirst cX1_dropFirst 1 none := ⟨wd509, wd114⟩
theorem miX1_dropFirst : MI yX1_dropFirst := ⟨wd508, wd1⟩
theorem mwX1_undoOne : MW yX1_undoOne cX1_undoOne 1 (some .int) := ⟨wd1010, wd114⟩
theorem miX1_undoOne : MI yX1_undoOne := ⟨wd1008, wd1009⟩
theorem mwX1_redoOne : MW yX1_redoOne cX1_redoOne 1 (some .int) := ⟨wd1019, wd114⟩
theorem miX1_redoOne : MI yX1_redoOne := ⟨wd1017, wd1018⟩
theorem mwX2_init : MW yX2_init cX2_init 2 none := ⟨wd320, wd113⟩
theorem mwX2_refuse : MW yX2_refuse cX2_refuse 2 (some .int) := ⟨wd971, wd113⟩
theorem miX2_refuse : MI yX2_refuse := ⟨wd969, wd970⟩
theorem mwX2_noteWire : MW yX2_noteWire cX2_noteWire 3 none := ⟨wd975, wd113⟩
theorem miX2_noteWire : MI yX2_noteWire := ⟨wd973, wd974⟩
theorem mwX2_keepImage : MW yX2_keepImage cX2_keepImage 2 (some .int) := ⟨wd992, wd113⟩
theorem miX2_keepImage : MI yX2_keepImage := ⟨wd990, wd991⟩
theorem mwX2_layBack : MW yX2_layBack cX2_layBack 2 (some .int) := ⟨wd1001, wd113⟩
theorem miX2_layBack : MI yX2_layBack := ⟨wd999, wd1000⟩
theorem mwX3_init : MW yX3_init cX3_init 3 none := ⟨wd295, wd112⟩
theorem mwX3_size : MW yX3_size cX3_size 1 (some .int) := ⟨wd848, wd112⟩
theorem miX3_size : MI yX3_size := ⟨wd847, wd27⟩
theorem mwX3_oddsOf : MW yX3_oddsOf cX3_oddsOf 4 (some .int) := ⟨wd857, wd112⟩
theorem miX3_oddsOf : MI yX3_oddsOf := ⟨wd856, wd28⟩
theorem mwX3_begin : MW yX3_begin cX3_begin 1 none := ⟨wd843, wd112⟩
theorem miX3_begin : MI yX3_begin := ⟨wd842, wd26⟩
theorem mwX3_swap : MW yX3_swap cX3_swap 3 none := ⟨wd867, wd112⟩
theorem miX3_swap : MI yX3_swap := ⟨wd866, wd30⟩
theorem mwX3_sum : MW yX3_sum cX3_sum 6 (some .long) := ⟨wd839, wd112⟩
theorem miX3_sum : MI yX3_sum := ⟨wd837, wd838⟩
theorem mwX3_addWord : MW yX3_addWord cX3_addWord 5 none := ⟨wd862, wd112⟩
theorem miX3_addWord : MI yX3_addWord := ⟨wd861, wd29⟩
theorem mwX3_likeliest : MW yX3_likeliest cX3_likeliest 4 (some .int) := ⟨wd876, wd112⟩
theorem miX3_likeliest : MI yX3_likeliest := ⟨wd874, wd875⟩
theorem mwX3_tryWord : MW yX3_tryWord cX3_tryWord 8 none := ⟨wd880, wd112⟩
theorem miX3_tryWord : MI yX3_tryWord := ⟨wd879, wd31⟩
theorem mwX3_isAhead : MW yX3_isAhead cX3_isAhead 6 (some .boolean) := ⟨wd883, wd112⟩
theorem msX3_isAhead : MS yX3_isAhead := wd882
theorem mwX3_sure : MW yX3_sure cX3_sure 3 (some .int) := ⟨wd898, wd112⟩
theorem miX3_sure : MI yX3_sure := ⟨wd896, wd897⟩
theorem mwX3_allOdds : MW yX3_allOdds cX3_allOdds 4 (some .long) := ⟨wd923, wd112⟩
theorem miX3_allOdds : MI yX3_allOdds := ⟨wd921, wd922⟩
theorem mwX3_unharmed : MW yX3_unharmed cX3_unharmed 6 (some .long) := ⟨wd907, wd112⟩
theorem miX3_unharmed : MI yX3_unharmed := ⟨wd905, wd906⟩
theorem mwX3_senseWith : MW yX3_senseWith cX3_senseWith 5 (some .int) := ⟨wd912, wd112⟩
theorem miX3_senseWith : MI yX3_senseWith := ⟨wd911, wd32⟩
theorem mwX3_oddsWith : MW yX3_oddsWith cX3_oddsWith 6 (some .long) := ⟨wd919, wd112⟩
theorem miX3_oddsWith : MI yX3_oddsWith := ⟨wd918, wd33⟩
theorem mwX3_draws : MW yX3_draws cX3_draws 16 (some .int) := ⟨wd961, wd112⟩
theorem miX3_draws : MI yX3_draws := ⟨wd959, wd960⟩
theorem mwX4_init : MW yX4_init cX4_init 2 none := ⟨wd165, wd106⟩
theorem mwX4_feedOne : MW yX4_feedOne cX4_feedOne 2 (some .int) := ⟨wd524, wd106⟩
theorem miX4_feedOne : MI yX4_feedOne := ⟨wd522, wd523⟩
theorem mwX4_adopt : MW yX4_adopt cX4_adopt 4 (some .int) := ⟨wd532, wd106⟩
theorem miX4_adopt : MI yX4_adopt := ⟨wd530, wd531⟩
theorem mwX4_readText : MW yX4_readText cX4_readText 2 (some .boolean) := ⟨wd536, wd106⟩
theorem miX4_readText : MI yX4_readText := ⟨wd535, wd2⟩
theorem mwX4_readLine : MW yX4_readLine cX4_readLine 1 (some .boolean) := ⟨wd540, wd106⟩
theorem miX4_readLine : MI yX4_readLine := ⟨wd539, wd3⟩
theorem mwX4_readEither : MW yX4_readEither cX4_readEither 4 (some .boolean) := ⟨wd544, wd106⟩
theorem miX4_readEither : MI yX4_readEither := ⟨wd543, wd4⟩
theorem mwX4_readBoth : MW yX4_readBoth cX4_readBoth 4 (some .boolean) := ⟨wd548, wd106⟩
theorem miX4_readBoth : MI yX4_readBoth := ⟨wd547, wd5⟩
theorem mwX4_readCompared : MW yX4_readCompared cX4_readCompared 4 (some .boolean) := ⟨wd552, wd106⟩
theorem miX4_readCompared : MI yX4_readCompared := ⟨wd551, wd6⟩
theorem mwX4_readSum : MW yX4_readSum cX4_readSum 5 (some .boolean) := ⟨wd556, wd106⟩
theorem miX4_readSum : MI yX4_readSum := ⟨wd555, wd7⟩
theorem mwX4_readProduct : MW yX4_readProduct cX4_readProduct 5 (some .boolean) := ⟨wd560, wd106⟩
theorem miX4_readProduct : MI yX4_readProduct := ⟨wd559, wd8⟩
theorem mwX4_readOperand : MW yX4_readOperand cX4_readOperand 5 (some .boolean) := ⟨wd564, wd106⟩
theorem miX4_readOperand : MI yX4_readOperand := ⟨wd563, wd9⟩
theorem mwX4_readNumber : MW yX4_readNumber cX4_readNumber 3 none := ⟨wd575, wd106⟩
theorem miX4_readNumber : MI yX4_readNumber := ⟨wd574, wd11⟩
theorem mwX4_isDigit : MW yX4_isDigit cX4_isDigit 1 (some .boolean) := ⟨wd571, wd106⟩
theorem msX4_isDigit : MS yX4_isDigit := wd570
theorem mwX4_next : MW yX4_next cX4_next 1 (some .int) := ⟨wd568, wd106⟩
theorem miX4_next : MI yX4_next := ⟨wd567, wd10⟩
theorem mwX4_takes : MW yX4_takes cX4_takes 2 (some .boolean) := ⟨wd660, wd106⟩
theorem miX4_takes : MI yX4_takes := ⟨wd659, wd13⟩
theorem mwX4_emit : MW yX4_emit cX4_emit 2 none := ⟨wd579, wd106⟩
theorem miX4_emit : MI yX4_emit := ⟨wd578, wd12⟩
theorem mwX4_priceOf : MW yX4_priceOf cX4_priceOf 6 (some .int) := ⟨wd668, wd106⟩
theorem miX4_priceOf : MI yX4_priceOf := ⟨wd666, wd667⟩
theorem mwX4_worked : MW yX4_worked cX4_worked 5 (some .int) := ⟨wd673, wd106⟩
theorem miX4_worked : MI yX4_worked := ⟨wd672, wd14⟩
theorem mwX4_workedOut : MW yX4_workedOut cX4_workedOut 3 (some .int) := ⟨wd684, wd106⟩
theorem msX4_workedOut : MS yX4_workedOut := wd683
theorem mwX4_push : MW yX4_push cX4_push 2 none := ⟨wd677, wd106⟩
theorem miX4_push : MI yX4_push := ⟨wd676, wd15⟩
theorem mwX4_pop : MW yX4_pop cX4_pop 1 (some .int) := ⟨wd681, wd106⟩
theorem miX4_pop : MI yX4_pop := ⟨wd680, wd16⟩
theorem mwX5_init : MW yX5_init cX5_init 1 none := ⟨wd136, wd105⟩
theorem mwX5_has : MW yX5_has cX5_has 3 (some .boolean) := ⟨wd458, wd105⟩
theorem miX5_has : MI yX5_has := ⟨wd456, wd457⟩
theorem mwX5_fits : MW yX5_fits cX5_fits 3 (some .boolean) := ⟨wd439, wd105⟩
theorem miX5_fits : MI yX5_fits := ⟨wd437, wd438⟩
theorem mwX5_value : MW yX5_value cX5_value 3 (some .int) := ⟨wd500, wd105⟩
theorem miX5_value : MI yX5_value := ⟨wd498, wd499⟩
theorem mwX5_set : MW yX5_set cX5_set 4 none := ⟨wd454, wd105⟩
theorem miX5_set : MI yX5_set := ⟨wd452, wd453⟩
theorem mwX5_addWord : MW yX5_addWord cX5_addWord 5 (some .int) := ⟨wd450, wd105⟩
theorem miX5_addWord : MI yX5_addWord := ⟨wd448, wd449⟩
theorem mwX5_addPerson : MW yX5_addPerson cX5_addPerson 3 (some .int) := ⟨wd491, wd105⟩
theorem miX5_addPerson : MI yX5_addPerson := ⟨wd489, wd490⟩
theorem mwX6_init : MW yX6_init cX6_init 3 none := ⟨wd270, wd111⟩
theorem mwX6_priceIn : MW yX6_priceIn cX6_priceIn 2 (some .int) := ⟨wd779, wd111⟩
theorem msX6_priceIn : MS yX6_priceIn := wd778
theorem mwX6_manyIn : MW yX6_manyIn cX6_manyIn 2 (some .int) := ⟨wd782, wd111⟩
theorem msX6_manyIn : MS yX6_manyIn := wd781
theorem mwX6_wordIn : MW yX6_wordIn cX6_wordIn 3 (some .int) := ⟨wd786, wd111⟩
theorem msX6_wordIn : MS yX6_wordIn := wd785
theorem mwX6_cheapest : MW yX6_cheapest cX6_cheapest 6 (some .long) := ⟨wd749, wd111⟩
theorem miX6_cheapest : MI yX6_cheapest := ⟨wd747, wd748⟩
theorem mwX6_widest : MW yX6_widest cX6_widest 4 (some .int) := ⟨wd795, wd111⟩
theorem miX6_widest : MI yX6_widest := ⟨wd793, wd794⟩
theorem mwX6_within : MW yX6_within cX6_within 4 (some .int) := ⟨wd815, wd111⟩
theorem miX6_within : MI yX6_within := ⟨wd813, wd814⟩
theorem mwX6_isFor : MW yX6_isFor cX6_isFor 3 (some .boolean) := ⟨wd799, wd111⟩
theorem miX6_isFor : MI yX6_isFor := ⟨wd798, wd22⟩
theorem mwX6_firstOf : MW yX6_firstOf cX6_firstOf 4 (some .long) := ⟨wd768, wd111⟩
theorem msX6_firstOf : MS yX6_firstOf := wd767
theorem mwX6_refresh : MW yX6_refresh cX6_refresh 4 none := ⟨wd753, wd111⟩
theorem miX6_refresh : MI yX6_refresh := ⟨wd752, wd19⟩
theorem mwX6_lengthen : MW yX6_lengthen cX6_lengthen 13 none := ⟨wd761, wd111⟩
theorem miX6_lengthen : MI yX6_lengthen := ⟨wd760, wd20⟩
theorem mwX6_settle : MW yX6_settle cX6_settle 6 none := ⟨wd775, wd111⟩
theorem miX6_settle : MI yX6_settle := ⟨wd774, wd21⟩
theorem mwX7_init : MW yX7_init cX7_init 1 none := ⟨wd218, wd108⟩
theorem mwX7_has : MW yX7_has cX7_has 2 (some .boolean) := ⟨wd471, wd108⟩
theorem miX7_has : MI yX7_has := ⟨wd469, wd470⟩
theorem mwX7_refusal : MW yX7_refusal cX7_refusal 3 (some .int) := ⟨wd467, wd108⟩
theorem miX7_refusal : MI yX7_refusal := ⟨wd465, wd466⟩
theorem mwX7_placeRefusal : MW yX7_placeRefusal cX7_placeRefusal 3 (some .int) := ⟨wd1098, wd108⟩
theorem miX7_placeRefusal : MI yX7_placeRefusal := ⟨wd1096, wd1097⟩
theorem mwX7_sizeOf : MW yX7_sizeOf cX7_sizeOf 2 (some .int) := ⟨wd475, wd108⟩
theorem miX7_sizeOf : MI yX7_sizeOf := ⟨wd473, wd474⟩
theorem mwX7_bodyOn : MW yX7_bodyOn cX7_bodyOn 2 (some .int) := ⟨wd1126, wd108⟩
theorem miX7_bodyOn : MI yX7_bodyOn := ⟨wd1124, wd1125⟩
theorem mwX7_hold : MW yX7_hold cX7_hold 3 none := ⟨wd1081, wd108⟩
theorem miX7_hold : MI yX7_hold := ⟨wd1079, wd1080⟩
theorem mwX7_lay : MW yX7_lay cX7_lay 4 none := ⟨wd1089, wd108⟩
theorem miX7_lay : MI yX7_lay := ⟨wd1087, wd1088⟩
theorem mwX7_at : MW yX7_at cX7_at 3 (some .long) := ⟨wd483, wd108⟩
theorem miX7_at : MI yX7_at := ⟨wd481, wd482⟩
theorem mwX7_store : MW yX7_store cX7_store 5 none := ⟨wd1102, wd108⟩
theorem miX7_store : MI yX7_store := ⟨wd1100, wd1101⟩
theorem mwX7_cut : MW yX7_cut cX7_cut 3 (some .long) := ⟨wd1105, wd108⟩
theorem msX7_cut : MS yX7_cut := wd1104
theorem mwX7_move : MW yX7_move cX7_move 6 (some .int) := ⟨wd1117, wd108⟩
theorem miX7_move : MI yX7_move := ⟨wd1115, wd1116⟩
theorem mwX8_init : MW yX8_init cX8_init 3 none := ⟨wd243, wd110⟩
theorem mwX8_read : MW yX8_read cX8_read 6 none := ⟨wd698, wd110⟩
theorem miX8_read : MI yX8_read := ⟨wd696, wd697⟩
theorem mwX8_wordAt : MW yX8_wordAt cX8_wordAt 2 (some .int) := ⟨wd853, wd110⟩
theorem miX8_wordAt : MI yX8_wordAt := ⟨wd851, wd852⟩
theorem mwX8_costs : MW yX8_costs cX8_costs 4 (some .int) := ⟨wd706, wd110⟩
theorem miX8_costs : MI yX8_costs := ⟨wd704, wd705⟩
theorem mwX8_senseOf : MW yX8_senseOf cX8_senseOf 1 (some .int) := ⟨wd712, wd110⟩
theorem miX8_senseOf : MI yX8_senseOf := ⟨wd710, wd711⟩
theorem mwX8_senseOfFirst : MW yX8_senseOfFirst cX8_senseOfFirst 4 (some .int) := ⟨wd716, wd110⟩
theorem miX8_senseOfFirst : MI yX8_senseOfFirst := ⟨wd714, wd715⟩
theorem mwX8_isRight : MW yX8_isRight cX8_isRight 4 (some .boolean) := ⟨wd720, wd110⟩
theorem miX8_isRight : MI yX8_isRight := ⟨wd718, wd719⟩
theorem mwX8_follows : MW yX8_follows cX8_follows 2 (some .boolean) := ⟨wd723, wd110⟩
theorem msX8_follows : MS yX8_follows := wd722
theorem mwX8_mayEnd : MW yX8_mayEnd cX8_mayEnd 1 (some .boolean) := ⟨wd726, wd110⟩
theorem msX8_mayEnd : MS yX8_mayEnd := wd725
theorem mwX8_joinedPrice : MW yX8_joinedPrice cX8_joinedPrice 1 (some .int) := ⟨wd730, wd110⟩
theorem miX8_joinedPrice : MI yX8_joinedPrice := ⟨wd728, wd729⟩
theorem mwX8_joinedRuns : MW yX8_joinedRuns cX8_joinedRuns 1 (some .int) := ⟨wd741, wd110⟩
theorem miX8_joinedRuns : MI yX8_joinedRuns := ⟨wd739, wd740⟩
theorem mwX8_joined : MW yX8_joined cX8_joined 7 (some .int) := ⟨wd734, wd110⟩
theorem miX8_joined : MI yX8_joined := ⟨wd733, wd18⟩
theorem mwX9_init : MW yX9_init cX9_init 1 none := ⟨wd128, wd104⟩
theorem mwX9_word : MW yX9_word cX9_word 3 (some .int) := ⟨wd435, wd104⟩
theorem miX9_word : MI yX9_word := ⟨wd433, wd434⟩
theorem mwX9_words : MW yX9_words cX9_words 6 (some .int) := ⟨wd462, wd104⟩
theorem miX9_words : MI yX9_words := ⟨wd460, wd461⟩
theorem mwX9_wordFrom : MW yX9_wordFrom cX9_wordFrom 6 (some .boolean) := ⟨wd479, wd104⟩
theorem miX9_wordFrom : MI yX9_wordFrom := ⟨wd478, wd0⟩
theorem mwX9_person : MW yX9_person cX9_person 2 (some .int) := ⟨wd487, wd104⟩
theorem miX9_person : MI yX9_person := ⟨wd485, wd486⟩
theorem mwX9_mend : MW yX9_mend cX9_mend 5 (some .int) := ⟨wd495, wd104⟩
theorem miX9_mend : MI yX9_mend := ⟨wd493, wd494⟩
theorem mwX9_of : MW yX9_of cX9_of 3 (some .int) := ⟨wd516, wd104⟩
theorem miX9_of : MI yX9_of := ⟨wd514, wd515⟩
theorem mwX9_feed : MW yX9_feed cX9_feed 2 (some .int) := ⟨wd520, wd104⟩
theorem miX9_feed : MI yX9_feed := ⟨wd518, wd519⟩
theorem mwX9_law : MW yX9_law cX9_law 1 (some .int) := ⟨wd528, wd104⟩
theorem miX9_law : MI yX9_law := ⟨wd526, wd527⟩
theorem mwX9_price : MW yX9_price cX9_price 5 (some .int) := ⟨wd664, wd104⟩
theorem miX9_price : MI yX9_price := ⟨wd662, wd663⟩
theorem mwX9_wire : MW yX9_wire cX9_wire 4 (some .int) := ⟨wd690, wd104⟩
theorem miX9_wire : MI yX9_wire := ⟨wd688, wd689⟩
theorem mwX9_opened : MW yX9_opened cX9_opened 3 (some .int) := ⟨wd694, wd104⟩
theorem miX9_opened : MI yX9_opened := ⟨wd693, wd17⟩
theorem mwX9_say : MW yX9_say cX9_say 6 (some .int) := ⟨wd745, wd104⟩
theorem miX9_say : MI yX9_say := ⟨wd743, wd744⟩
theorem mwX9_allFor : MW yX9_allFor cX9_allFor 4 (some .int) := ⟨wd791, wd104⟩
theorem miX9_allFor : MI yX9_allFor := ⟨wd789, wd790⟩
theorem mwX9_tooDear : MW yX9_tooDear cX9_tooDear 2 (some .int) := ⟨wd811, wd104⟩
theorem miX9_tooDear : MI yX9_tooDear := ⟨wd809, wd810⟩
theorem mwX9_year : MW yX9_year cX9_year 6 (some .int) := ⟨wd819, wd104⟩
theorem miX9_year : MI yX9_year := ⟨wd817, wd818⟩
theorem mwX9_offersOn : MW yX9_offersOn cX9_offersOn 4 (some .int) := ⟨wd827, wd104⟩
theorem miX9_offersOn : MI yX9_offersOn := ⟨wd826, wd24⟩
theorem mwX9_bestYear : MW yX9_bestYear cX9_bestYear 8 (some .int) := ⟨wd823, wd104⟩
theorem miX9_bestYear : MI yX9_bestYear := ⟨wd822, wd23⟩
theorem mwX9_sumOf : MW yX9_sumOf cX9_sumOf 6 (some .int) := ⟨wd831, wd104⟩
theorem miX9_sumOf : MI yX9_sumOf := ⟨wd830, wd25⟩
theorem mwX9_came : MW yX9_came cX9_came 2 (some .long) := ⟨wd835, wd104⟩
theorem miX9_came : MI yX9_came := ⟨wd833, wd834⟩
theorem mwX9_cameAs : MW yX9_cameAs cX9_cameAs 4 (some .int) := ⟨wd872, wd104⟩
theorem miX9_cameAs : MI yX9_cameAs := ⟨wd870, wd871⟩
theorem mwX9_meant : MW yX9_meant cX9_meant 6 (some .long) := ⟨wd887, wd104⟩
theorem miX9_meant : MI yX9_meant := ⟨wd885, wd886⟩
theorem mwX9_certain : MW yX9_certain cX9_certain 3 (some .int) := ⟨wd894, wd104⟩
theorem miX9_certain : MI yX9_certain := ⟨wd892, wd893⟩
theorem mwX9_safe : MW yX9_safe cX9_safe 3 (some .long) := ⟨wd903, wd104⟩
theorem miX9_safe : MI yX9_safe := ⟨wd901, wd902⟩
theorem mwX9_unsigned : MW yX9_unsigned cX9_unsigned 9 (some .int) := ⟨wd928, wd104⟩
theorem miX9_unsigned : MI yX9_unsigned := ⟨wd926, wd927⟩
theorem mwX9_maySend : MW yX9_maySend cX9_maySend 4 (some .boolean) := ⟨wd932, wd104⟩
theorem miX9_maySend : MI yX9_maySend := ⟨wd931, wd34⟩
theorem mwX9_club : MW yX9_club cX9_club 8 (some .int) := ⟨wd936, wd104⟩
theorem miX9_club : MI yX9_club := ⟨wd934, wd935⟩
theorem mwX9_isIn : MW yX9_isIn cX9_isIn 2 (some .boolean) := ⟨wd915, wd104⟩
theorem msX9_isIn : MS yX9_isIn := wd914
theorem mwX9_shareOf : MW yX9_shareOf cX9_shareOf 4 (some .int) := ⟨wd941, wd104⟩
theorem miX9_shareOf : MI yX9_shareOf := ⟨wd940, wd35⟩
theorem mwX9_lacks : MW yX9_lacks cX9_lacks 2 (some .int) := ⟨wd945, wd104⟩
theorem miX9_lacks : MI yX9_lacks := ⟨wd943, wd944⟩
theorem mwX9_wordless : MW yX9_wordless cX9_wordless 3 (some .int) := ⟨wd949, wd104⟩
theorem miX9_wordless : MI yX9_wordless := ⟨wd948, wd36⟩
theorem mwX9_dearest : MW yX9_dearest cX9_dearest 7 (some .int) := ⟨wd953, wd104⟩
theorem miX9_dearest : MI yX9_dearest := ⟨wd952, wd37⟩
theorem mwX9_drawn : MW yX9_drawn cX9_drawn 6 (some .int) := ⟨wd957, wd104⟩
theorem miX9_drawn : MI yX9_drawn := ⟨wd955, wd956⟩
theorem mwX9_send : MW yX9_send cX9_send 8 (some .int) := ⟨wd967, wd104⟩
theorem miX9_send : MI yX9_send := ⟨wd965, wd966⟩
theorem mwX9_night : MW yX9_night cX9_night 1 (some .int) := ⟨wd980, wd104⟩
theorem miX9_night : MI yX9_night := ⟨wd978, wd979⟩
theorem mwX9_led : MW yX9_led cX9_led 2 (some .int) := ⟨wd984, wd104⟩
theorem miX9_led : MI yX9_led := ⟨wd982, wd983⟩
theorem mwX9_image : MW yX9_image cX9_image 1 (some .int) := ⟨wd988, wd104⟩
theorem miX9_image : MI yX9_image := ⟨wd986, wd987⟩
theorem mwX9_back : MW yX9_back cX9_back 1 (some .int) := ⟨wd997, wd104⟩
theorem miX9_back : MI yX9_back := ⟨wd995, wd996⟩
theorem mwX9_undo : MW yX9_undo cX9_undo 1 (some .int) := ⟨wd1006, wd104⟩
theorem miX9_undo : MI yX9_undo := ⟨wd1004, wd1005⟩
theorem mwX9_redo : MW yX9_redo cX9_redo 1 (some .int) := ⟨wd1015, wd104⟩
theorem miX9_redo : MI yX9_redo := ⟨wd1013, wd1014⟩
theorem mwX9_body : MW yX9_body cX9_body 2 (some .int) := ⟨wd1023, wd104⟩
theorem miX9_body : MI yX9_body := ⟨wd1021, wd1022⟩
theorem mwX9_act : MW yX9_act cX9_act 4 (some .int) := ⟨wd1031, wd104⟩
theorem miX9_act : MI yX9_act := ⟨wd1029, wd1030⟩
theorem mwX9_trace : MW yX9_trace cX9_trace 2 (some .int) := ⟨wd1068, wd104⟩
theorem miX9_trace : MI yX9_trace := ⟨wd1066, wd1067⟩
theorem mwX9_keep : MW yX9_keep cX9_keep 3 (some .int) := ⟨wd1076, wd104⟩
theorem miX9_keep : MI yX9_keep := ⟨wd1074, wd1075⟩
theorem mwX9_row : MW yX9_row cX9_row 4 (some .int) := ⟨wd1085, wd104⟩
theorem miX9_row : MI yX9_row := ⟨wd1083, wd1084⟩
theorem mwX9_put : MW yX9_put cX9_put 6 (some .int) := ⟨wd1094, wd104⟩
theorem miX9_put : MI yX9_put := ⟨wd1092, wd1093⟩
theorem mwX9_element : MW yX9_element cX9_element 3 (some .long) := ⟨wd1109, wd104⟩
theorem miX9_element : MI yX9_element := ⟨wd1107, wd1108⟩
theorem mwX9_shift : MW yX9_shift cX9_shift 6 (some .int) := ⟨wd1113, wd104⟩
theorem miX9_shift : MI yX9_shift := ⟨wd1111, wd1112⟩
theorem mwX9_taken : MW yX9_taken cX9_taken 5 (some .int) := ⟨wd1122, wd104⟩
theorem miX9_taken : MI yX9_taken := ⟨wd1120, wd1121⟩
theorem mwX9_count : MW yX9_count cX9_count 2 (some .int) := ⟨wd1134, wd104⟩
theorem miX9_count : MI yX9_count := ⟨wd1132, wd1133⟩
theorem mwX9_between : MW yX9_between cX9_between 3 (some .boolean) := ⟨wd446, wd104⟩
theorem msX9_between : MS yX9_between := wd445
theorem mwX9_inLowest : MW yX9_inLowest cX9_inLowest 12 (some .long) := ⟨wd890, wd104⟩
theorem msX9_inLowest : MS yX9_inLowest := wd889
theorem mwX10_init : MW yX10_init cX10_init 1 none := ⟨wd1139, wd116⟩
theorem mwX10_in : MW yX10_in cX10_in 3 (some .boolean) := ⟨wd1328, wd116⟩
theorem msX10_in : MS yX10_in := wd1327
theorem mwX10_bitsOf : MW yX10_bitsOf cX10_bitsOf 3 (some .int) := ⟨wd1555, wd116⟩
theorem msX10_bitsOf : MS yX10_bitsOf := wd1554
theorem mwX10_isWord : MW yX10_isWord cX10_isWord 2 (some .boolean) := ⟨wd1368, wd116⟩
theorem miX10_isWord : MI yX10_isWord := ⟨wd1367, wd46⟩
theorem mwX10_isPerson : MW yX10_isPerson cX10_isPerson 2 (some .boolean) := ⟨wd1372, wd116⟩
theorem miX10_isPerson : MI yX10_isPerson := ⟨wd1371, wd47⟩
theorem mwX10_addWord : MW yX10_addWord cX10_addWord 4 (some .int) := ⟨wd1332, wd116⟩
theorem miX10_addWord : MI yX10_addWord := ⟨wd1331, wd43⟩
theorem mwX10_word : MW yX10_word cX10_word 3 (some .int) := ⟨wd1325, wd116⟩
theorem miX10_word : MI yX10_word := ⟨wd1323, wd1324⟩
theorem mwX10_words : MW yX10_words cX10_words 8 (some .int) := ⟨wd1336, wd116⟩
theorem miX10_words : MI yX10_words := ⟨wd1334, wd1335⟩
theorem mwX10_person : MW yX10_person cX10_person 2 (some .int) := ⟨wd1344, wd116⟩
theorem miX10_person : MI yX10_person := ⟨wd1342, wd1343⟩
theorem mwX10_valueAt : MW yX10_valueAt cX10_valueAt 3 (some .int) := ⟨wd1384, wd116⟩
theorem miX10_valueAt : MI yX10_valueAt := ⟨wd1383, wd50⟩
theorem mwX10_lays : MW yX10_lays cX10_lays 4 none := ⟨wd1352, wd116⟩
theorem miX10_lays : MI yX10_lays := ⟨wd1351, wd44⟩
theorem mwX10_changes : MW yX10_changes cX10_changes 6 (some .int) := ⟨wd1380, wd116⟩
theorem miX10_changes : MI yX10_changes := ⟨wd1379, wd49⟩
theorem mwX10_undo : MW yX10_undo cX10_undo 1 (some .int) := ⟨wd1348, wd116⟩
theorem miX10_undo : MI yX10_undo := ⟨wd1346, wd1347⟩
theorem mwX10_redo : MW yX10_redo cX10_redo 1 (some .int) := ⟨wd1356, wd116⟩
theorem miX10_redo : MI yX10_redo := ⟨wd1354, wd1355⟩
theorem mwX10_isOne : MW yX10_isOne cX10_isOne 3 (some .boolean) := ⟨wd1364, wd116⟩
theorem miX10_isOne : MI yX10_isOne := ⟨wd1363, wd45⟩
theorem mwX10_mayHave : MW yX10_mayHave cX10_mayHave 3 (some .boolean) := ⟨wd1376, wd116⟩
theorem miX10_mayHave : MI yX10_mayHave := ⟨wd1375, wd48⟩
theorem mwX10_mend : MW yX10_mend cX10_mend 4 (some .int) := ⟨wd1360, wd116⟩
theorem miX10_mend : MI yX10_mend := ⟨wd1358, wd1359⟩
theorem mwX10_of : MW yX10_of cX10_of 3 (some .int) := ⟨wd1388, wd116⟩
theorem miX10_of : MI yX10_of := ⟨wd1386, wd1387⟩
theorem mwX10_feed : MW yX10_feed cX10_feed 2 (some .int) := ⟨wd1392, wd116⟩
theorem miX10_feed : MI yX10_feed := ⟨wd1390, wd1391⟩
theorem mwX10_look : MW yX10_look cX10_look 1 (some .int) := ⟨wd1432, wd116⟩
theorem miX10_look : MI yX10_look := ⟨wd1431, wd59⟩
theorem mwX10_wrong : MW yX10_wrong cX10_wrong 1 none := ⟨wd1447, wd116⟩
theorem miX10_wrong : MI yX10_wrong := ⟨wd1446, wd62⟩
theorem mwX10_addStep : MW yX10_addStep cX10_addStep 3 none := ⟨wd1439, wd116⟩
theorem miX10_addStep : MI yX10_addStep := ⟨wd1438, wd60⟩
theorem mwX10_nameOf : MW yX10_nameOf cX10_nameOf 1 (some .int) := ⟨wd1435, wd116⟩
theorem msX10_nameOf : MS yX10_nameOf := wd1434
theorem mwX10_opens : MW yX10_opens cX10_opens 1 (some .boolean) := ⟨wd1443, wd116⟩
theorem miX10_opens : MI yX10_opens := ⟨wd1442, wd61⟩
theorem mwX10_figure : MW yX10_figure cX10_figure 3 none := ⟨wd1451, wd116⟩
theorem miX10_figure : MI yX10_figure := ⟨wd1450, wd63⟩
theorem mwX10_operand : MW yX10_operand cX10_operand 2 none := ⟨wd1428, wd116⟩
theorem miX10_operand : MI yX10_operand := ⟨wd1427, wd58⟩
theorem mwX10_product : MW yX10_product cX10_product 2 none := ⟨wd1424, wd116⟩
theorem miX10_product : MI yX10_product := ⟨wd1423, wd57⟩
theorem mwX10_sum : MW yX10_sum cX10_sum 2 none := ⟨wd1420, wd116⟩
theorem miX10_sum : MI yX10_sum := ⟨wd1419, wd56⟩
theorem mwX10_compared : MW yX10_compared cX10_compared 2 none := ⟨wd1416, wd116⟩
theorem miX10_compared : MI yX10_compared := ⟨wd1415, wd55⟩
theorem mwX10_both : MW yX10_both cX10_both 1 none := ⟨wd1412, wd116⟩
theorem miX10_both : MI yX10_both := ⟨wd1411, wd54⟩
theorem mwX10_either : MW yX10_either cX10_either 1 none := ⟨wd1408, wd116⟩
theorem miX10_either : MI yX10_either := ⟨wd1407, wd53⟩
theorem mwX10_line : MW yX10_line cX10_line 2 none := ⟨wd1404, wd116⟩
theorem miX10_line : MI yX10_line := ⟨wd1403, wd52⟩
theorem mwX10_readText : MW yX10_readText cX10_readText 3 (some .int) := ⟨wd1400, wd116⟩
theorem miX10_readText : MI yX10_readText := ⟨wd1399, wd51⟩
theorem mwX10_twoOf : MW yX10_twoOf cX10_twoOf 3 (some .int) := ⟨wd1470, wd116⟩
theorem msX10_twoOf : MS yX10_twoOf := wd1469
theorem mwX10_worked : MW yX10_worked cX10_worked 7 (some .int) := ⟨wd1467, wd116⟩
theorem miX10_worked : MI yX10_worked := ⟨wd1466, wd66⟩
theorem mwX10_gives : MW yX10_gives cX10_gives 4 (some .int) := ⟨wd1463, wd116⟩
theorem miX10_gives : MI yX10_gives := ⟨wd1462, wd65⟩
theorem mwX10_law : MW yX10_law cX10_law 2 (some .int) := ⟨wd1396, wd116⟩
theorem miX10_law : MI yX10_law := ⟨wd1394, wd1395⟩
theorem mwX10_priceIn : MW yX10_priceIn cX10_priceIn 5 (some .int) := ⟨wd1459, wd116⟩
theorem miX10_priceIn : MI yX10_priceIn := ⟨wd1458, wd64⟩
theorem mwX10_price : MW yX10_price cX10_price 3 (some .int) := ⟨wd1455, wd116⟩
theorem miX10_price : MI yX10_price := ⟨wd1453, wd1454⟩
theorem mwX10_rowFault : MW yX10_rowFault cX10_rowFault 3 (some .int) := ⟨wd1478, wd116⟩
theorem miX10_rowFault : MI yX10_rowFault := ⟨wd1477, wd67⟩
theorem mwX10_at : MW yX10_at cX10_at 3 (some .int) := ⟨wd1486, wd116⟩
theorem miX10_at : MI yX10_at := ⟨wd1485, wd69⟩
theorem mwX10_layWired : MW yX10_layWired cX10_layWired 2 none := ⟨wd1482, wd116⟩
theorem miX10_layWired : MI yX10_layWired := ⟨wd1481, wd68⟩
theorem mwX10_aheadOf : MW yX10_aheadOf cX10_aheadOf 2 (some .int) := ⟨wd1499, wd116⟩
theorem miX10_aheadOf : MI yX10_aheadOf := ⟨wd1498, wd72⟩
theorem mwX10_priceAt : MW yX10_priceAt cX10_priceAt 2 (some .int) := ⟨wd1495, wd116⟩
theorem miX10_priceAt : MI yX10_priceAt := ⟨wd1494, wd71⟩
theorem mwX10_priceAll : MW yX10_priceAll cX10_priceAll 3 (some .int) := ⟨wd1503, wd116⟩
theorem miX10_priceAll : MI yX10_priceAll := ⟨wd1502, wd73⟩
theorem mwX10_senseAll : MW yX10_senseAll cX10_senseAll 3 (some .int) := ⟨wd1507, wd116⟩
theorem miX10_senseAll : MI yX10_senseAll := ⟨wd1506, wd74⟩
theorem mwX10_mayStand : MW yX10_mayStand cX10_mayStand 2 (some .boolean) := ⟨wd1514, wd116⟩
theorem msX10_mayStand : MS yX10_mayStand := wd1513
theorem mwX10_isRight : MW yX10_isRight cX10_isRight 3 (some .boolean) := ⟨wd1511, wd116⟩
theorem miX10_isRight : MI yX10_isRight := ⟨wd1510, wd75⟩
theorem mwX10_findJoined : MW yX10_findJoined cX10_findJoined 7 none := ⟨wd1490, wd116⟩
theorem miX10_findJoined : MI yX10_findJoined := ⟨wd1489, wd70⟩
theorem mwX10_wire : MW yX10_wire cX10_wire 4 (some .int) := ⟨wd1474, wd116⟩
theorem miX10_wire : MI yX10_wire := ⟨wd1472, wd1473⟩
theorem mwX10_sayAt : MW yX10_sayAt cX10_sayAt 4 (some .int) := ⟨wd1525, wd116⟩
theorem msX10_sayAt : MS yX10_sayAt := wd1524
theorem mwX10_sayBy : MW yX10_sayBy cX10_sayBy 7 (some .int) := ⟨wd1533, wd116⟩
theorem miX10_sayBy : MI yX10_sayBy := ⟨wd1532, wd78⟩
theorem mwX10_findSay : MW yX10_findSay cX10_findSay 7 none := ⟨wd1522, wd116⟩
theorem miX10_findSay : MI yX10_findSay := ⟨wd1521, wd76⟩
theorem mwX10_leastSay : MW yX10_leastSay cX10_leastSay 8 (some .int) := ⟨wd1529, wd116⟩
theorem miX10_leastSay : MI yX10_leastSay := ⟨wd1528, wd77⟩
theorem mwX10_say : MW yX10_say cX10_say 9 (some .int) := ⟨wd1518, wd116⟩
theorem miX10_say : MI yX10_say := ⟨wd1516, wd1517⟩
theorem mwX10_nowAt : MW yX10_nowAt cX10_nowAt 3 (some .int) := ⟨wd1544, wd116⟩
theorem msX10_nowAt : MS yX10_nowAt := wd1543
theorem mwX10_goPlace : MW yX10_goPlace cX10_goPlace 5 none := ⟨wd1548, wd116⟩
theorem miX10_goPlace : MI yX10_goPlace := ⟨wd1547, wd80⟩
theorem mwX10_goFrom : MW yX10_goFrom cX10_goFrom 8 none := ⟨wd1552, wd116⟩
theorem miX10_goFrom : MI yX10_goFrom := ⟨wd1551, wd81⟩
theorem mwX10_findLeast : MW yX10_findLeast cX10_findLeast 4 none := ⟨wd1541, wd116⟩
theorem miX10_findLeast : MI yX10_findLeast := ⟨wd1540, wd79⟩
theorem mwX10_allFor : MW yX10_allFor cX10_allFor 5 (some .int) := ⟨wd1537, wd116⟩
theorem miX10_allFor : MI yX10_allFor := ⟨wd1535, wd1536⟩
theorem mwX10_tooDear : MW yX10_tooDear cX10_tooDear 4 (some .int) := ⟨wd1559, wd116⟩
theorem miX10_tooDear : MI yX10_tooDear := ⟨wd1557, wd1558⟩
theorem mwX10_year : MW yX10_year cX10_year 12 (some .int) := ⟨wd1563, wd116⟩
theorem miX10_year : MI yX10_year := ⟨wd1561, wd1562⟩
theorem mwX10_errAt : MW yX10_errAt cX10_errAt 4 (some .int) := ⟨wd1579, wd116⟩
theorem msX10_errAt : MS yX10_errAt := wd1578
theorem mwX10_weightOf : MW yX10_weightOf cX10_weightOf 4 (some .int) := ⟨wd1587, wd116⟩
theorem miX10_weightOf : MI yX10_weightOf := ⟨wd1586, wd85⟩
theorem mwX10_seenBy : MW yX10_seenBy cX10_seenBy 3 (some .int) := ⟨wd1595, wd116⟩
theorem miX10_seenBy : MI yX10_seenBy := ⟨wd1594, wd87⟩
theorem mwX10_nextAt : MW yX10_nextAt cX10_nextAt 5 (some .int) := ⟨wd1591, wd116⟩
theorem miX10_nextAt : MI yX10_nextAt := ⟨wd1590, wd86⟩
theorem mwX10_findErrors : MW yX10_findErrors cX10_findErrors 6 none := ⟨wd1576, wd116⟩
theorem miX10_findErrors : MI yX10_findErrors := ⟨wd1575, wd83⟩
theorem mwX10_findPlace : MW yX10_findPlace cX10_findPlace 14 none := ⟨wd1583, wd116⟩
theorem miX10_findPlace : MI yX10_findPlace := ⟨wd1582, wd84⟩
theorem mwX10_layFirst : MW yX10_layFirst cX10_layFirst 2 none := ⟨wd1572, wd116⟩
theorem miX10_layFirst : MI yX10_layFirst := ⟨wd1571, wd82⟩
theorem mwX10_came : MW yX10_came cX10_came 2 (some .long) := ⟨wd1567, wd116⟩
theorem miX10_came : MI yX10_came := ⟨wd1565, wd1566⟩
theorem mwX10_cameAs : MW yX10_cameAs cX10_cameAs 8 (some .int) := ⟨wd1599, wd116⟩
theorem miX10_cameAs : MI yX10_cameAs := ⟨wd1597, wd1598⟩
theorem mwX10_lowest : MW yX10_lowest cX10_lowest 11 (some .long) := ⟨wd1610, wd116⟩
theorem msX10_lowest : MS yX10_lowest := wd1609
theorem mwX10_oddsWith : MW yX10_oddsWith cX10_oddsWith 2 (some .long) := ⟨wd1607, wd116⟩
theorem miX10_oddsWith : MI yX10_oddsWith := ⟨wd1606, wd88⟩
theorem mwX10_meant : MW yX10_meant cX10_meant 6 (some .long) := ⟨wd1603, wd116⟩
theorem miX10_meant : MI yX10_meant := ⟨wd1601, wd1602⟩
theorem mwX10_certain : MW yX10_certain cX10_certain 7 (some .int) := ⟨wd1614, wd116⟩
theorem miX10_certain : MI yX10_certain := ⟨wd1612, wd1613⟩
theorem mwX10_safe : MW yX10_safe cX10_safe 14 (some .long) := ⟨wd1618, wd116⟩
theorem miX10_safe : MI yX10_safe := ⟨wd1616, wd1617⟩
theorem mwX10_unsigned : MW yX10_unsigned cX10_unsigned 7 (some .int) := ⟨wd1623, wd116⟩
theorem miX10_unsigned : MI yX10_unsigned := ⟨wd1621, wd1622⟩
theorem mwX10_club : MW yX10_club cX10_club 7 (some .int) := ⟨wd1627, wd116⟩
theorem miX10_club : MI yX10_club := ⟨wd1625, wd1626⟩
theorem mwX10_lacks : MW yX10_lacks cX10_lacks 5 (some .int) := ⟨wd1631, wd116⟩
theorem miX10_lacks : MI yX10_lacks := ⟨wd1629, wd1630⟩
theorem mwX10_drawn : MW yX10_drawn cX10_drawn 10 (some .int) := ⟨wd1635, wd116⟩
theorem miX10_drawn : MI yX10_drawn := ⟨wd1633, wd1634⟩
theorem mwX10_send : MW yX10_send cX10_send 6 (some .int) := ⟨wd1640, wd116⟩
theorem miX10_send : MI yX10_send := ⟨wd1638, wd1639⟩
theorem mwX10_night : MW yX10_night cX10_night 1 (some .int) := ⟨wd1644, wd116⟩
theorem miX10_night : MI yX10_night := ⟨wd1642, wd1643⟩
theorem mwX10_led : MW yX10_led cX10_led 2 (some .int) := ⟨wd1648, wd116⟩
theorem miX10_led : MI yX10_led := ⟨wd1646, wd1647⟩
theorem mwX10_image : MW yX10_image cX10_image 2 (some .int) := ⟨wd1652, wd116⟩
theorem miX10_image : MI yX10_image := ⟨wd1650, wd1651⟩
theorem mwX10_back : MW yX10_back cX10_back 2 (some .int) := ⟨wd1656, wd116⟩
theorem miX10_back : MI yX10_back := ⟨wd1654, wd1655⟩
theorem mwX10_isBody : MW yX10_isBody cX10_isBody 2 (some .boolean) := ⟨wd1672, wd116⟩
theorem miX10_isBody : MI yX10_isBody := ⟨wd1671, wd89⟩
theorem mwX10_ran : MW yX10_ran cX10_ran 2 none := ⟨wd1683, wd116⟩
theorem miX10_ran : MI yX10_ran := ⟨wd1682, wd91⟩
theorem mwX10_trace : MW yX10_trace cX10_trace 2 (some .int) := ⟨wd1660, wd116⟩
theorem miX10_trace : MI yX10_trace := ⟨wd1658, wd1659⟩
theorem mwX10_body : MW yX10_body cX10_body 2 (some .int) := ⟨wd1664, wd116⟩
theorem miX10_body : MI yX10_body := ⟨wd1662, wd1663⟩
theorem mwX10_isUnder : MW yX10_isUnder cX10_isUnder 2 (some .boolean) := ⟨wd1679, wd116⟩
theorem msX10_isUnder : MS yX10_isUnder := wd1678
theorem mwX10_plainSays : MW yX10_plainSays cX10_plainSays 3 (some .int) := ⟨wd1687, wd116⟩
theorem miX10_plainSays : MI yX10_plainSays := ⟨wd1686, wd92⟩
theorem mwX10_cowSays : MW yX10_cowSays cX10_cowSays 3 (some .int) := ⟨wd1691, wd116⟩
theorem miX10_cowSays : MI yX10_cowSays := ⟨wd1690, wd93⟩
theorem mwX10_saying : MW yX10_saying cX10_saying 3 (some .int) := ⟨wd1676, wd116⟩
theorem miX10_saying : MI yX10_saying := ⟨wd1675, wd90⟩
theorem mwX10_plainCosts : MW yX10_plainCosts cX10_plainCosts 3 (some .int) := ⟨wd1703, wd116⟩
theorem miX10_plainCosts : MI yX10_plainCosts := ⟨wd1702, wd96⟩
theorem mwX10_clerkCosts : MW yX10_clerkCosts cX10_clerkCosts 3 (some .int) := ⟨wd1699, wd116⟩
theorem miX10_clerkCosts : MI yX10_clerkCosts := ⟨wd1698, wd95⟩
theorem mwX10_costing : MW yX10_costing cX10_costing 4 (some .int) := ⟨wd1695, wd116⟩
theorem miX10_costing : MI yX10_costing := ⟨wd1694, wd94⟩
theorem mwX10_plainErrs : MW yX10_plainErrs cX10_plainErrs 3 (some .int) := ⟨wd1715, wd116⟩
theorem miX10_plainErrs : MI yX10_plainErrs := ⟨wd1714, wd99⟩
theorem mwX10_stopErrs : MW yX10_stopErrs cX10_stopErrs 3 (some .int) := ⟨wd1711, wd116⟩
theorem miX10_stopErrs : MI yX10_stopErrs := ⟨wd1710, wd98⟩
theorem mwX10_erring : MW yX10_erring cX10_erring 4 (some .int) := ⟨wd1707, wd116⟩
theorem miX10_erring : MI yX10_erring := ⟨wd1706, wd97⟩
theorem mwX10_plainTells : MW yX10_plainTells cX10_plainTells 4 (some .int) := ⟨wd1723, wd116⟩
theorem miX10_plainTells : MI yX10_plainTells := ⟨wd1722, wd101⟩
theorem mwX10_telling : MW yX10_telling cX10_telling 3 (some .int) := ⟨wd1719, wd116⟩
theorem miX10_telling : MI yX10_telling := ⟨wd1718, wd100⟩
theorem mwX10_act : MW yX10_act cX10_act 4 (some .int) := ⟨wd1668, wd116⟩
theorem miX10_act : MI yX10_act := ⟨wd1666, wd1667⟩
theorem mwX10_count : MW yX10_count cX10_count 2 (some .int) := ⟨wd1727, wd116⟩
theorem miX10_count : MI yX10_count := ⟨wd1725, wd1726⟩
theorem mwX10_isShelf : MW yX10_isShelf cX10_isShelf 1 (some .boolean) := ⟨wd1339, wd116⟩
theorem msX10_isShelf : MS yX10_isShelf := wd1338
theorem mwX10_keep : MW yX10_keep cX10_keep 3 (some .int) := ⟨wd1731, wd116⟩
theorem miX10_keep : MI yX10_keep := ⟨wd1729, wd1730⟩
theorem mwX10_row : MW yX10_row cX10_row 5 (some .int) := ⟨wd1735, wd116⟩
theorem miX10_row : MI yX10_row := ⟨wd1733, wd1734⟩
theorem mwX10_whyNoPlace : MW yX10_whyNoPlace cX10_whyNoPlace 3 (some .int) := ⟨wd1743, wd116⟩
theorem miX10_whyNoPlace : MI yX10_whyNoPlace := ⟨wd1742, wd102⟩
theorem mwX10_put : MW yX10_put cX10_put 7 (some .int) := ⟨wd1739, wd116⟩
theorem miX10_put : MI yX10_put := ⟨wd1737, wd1738⟩
theorem mwX10_element : MW yX10_element cX10_element 3 (some .long) := ⟨wd1747, wd116⟩
theorem miX10_element : MI yX10_element := ⟨wd1745, wd1746⟩
theorem mwX10_shift : MW yX10_shift cX10_shift 7 (some .int) := ⟨wd1751, wd116⟩
theorem miX10_shift : MI yX10_shift := ⟨wd1749, wd1750⟩
theorem mwX10_taken : MW yX10_taken cX10_taken 3 (some .int) := ⟨wd1755, wd116⟩
theorem miX10_taken : MI yX10_taken := ⟨wd1753, wd1754⟩
theorem mwJ7_fill_d0a16 : MW yJ7_fill_d0a16 cJ7_fill_d0a16 5 none := ⟨wd757, wd109⟩
theorem msJ7_fill_d0a16 : MS yJ7_fill_d0a16 := wd756
theorem mwJ7_fill_53178 : MW yJ7_fill_53178 cJ7_fill_53178 4 none := ⟨wd224, wd109⟩
theorem msJ7_fill_53178 : MS yJ7_fill_53178 := wd223
theorem mwJ6_bitCount_0f7a4 : MW yJ6_bitCount_0f7a4 cJ6_bitCount_0f7a4 1 (some .int) := ⟨wd803, wd123⟩
theorem msJ6_bitCount_0f7a4 : MS yJ6_bitCount_0f7a4 := wd802
theorem mwJ9_max_7cf53 : MW yJ9_max_7cf53 cJ9_max_7cf53 2 (some .int) := ⟨wd601, wd119⟩
theorem msJ9_max_7cf53 : MS yJ9_max_7cf53 := wd600
theorem mwJ9_min_7cf53 : MW yJ9_min_7cf53 cJ9_min_7cf53 2 (some .int) := ⟨wd604, wd119⟩
theorem msJ9_min_7cf53 : MS yJ9_min_7cf53 := wd603
theorem mwJ9_min_f86c9 : MW yJ9_min_f86c9 cJ9_min_f86c9 4 (some .long) := ⟨wd771, wd119⟩
theorem msJ9_min_f86c9 : MS yJ9_min_f86c9 := wd770
theorem mwJ0_length_8abf5 : MW yJ0_length_8abf5 cJ0_length_8abf5 1 (some .int) := ⟨wd171, wd107⟩
theorem miJ0_length_8abf5 : MI yJ0_length_8abf5 := ⟨wd169, wd170⟩
theorem mwJ0_indexOf_0f7a4 : MW yJ0_indexOf_0f7a4 cJ0_indexOf_0f7a4 2 (some .int) := ⟨wd583, wd107⟩
theorem miJ0_indexOf_0f7a4 : MI yJ0_indexOf_0f7a4 := ⟨wd581, wd582⟩
theorem mwJ0_indexOf_7cf53 : MW yJ0_indexOf_7cf53 cJ0_indexOf_7cf53 3 (some .int) := ⟨wd587, wd107⟩
theorem miJ0_indexOf_7cf53 : MI yJ0_indexOf_7cf53 := ⟨wd585, wd586⟩
theorem mwJ0_coder_7d493 : MW yJ0_coder_7d493 cJ0_coder_7d493 1 (some .byte) := ⟨wd175, wd107⟩
theorem miJ0_coder_7d493 : MI yJ0_coder_7d493 := ⟨wd173, wd174⟩
theorem mwJ0_isLatin1_aae02 : MW yJ0_isLatin1_aae02 cJ0_isLatin1_aae02 1 (some .boolean) := ⟨wd591, wd107⟩
theorem miJ0_isLatin1_aae02 : MI yJ0_isLatin1_aae02 := ⟨wd589, wd590⟩
theorem mwJ0_checkBoundsBeginEnd_23922 : MW yJ0_checkBoundsBeginEnd_23922 cJ0_checkBoundsBeginEnd_23922 3 none := ⟨wd625, wd107⟩
theorem msJ0_checkBoundsBeginEnd_23922 : MS yJ0_checkBoundsBeginEnd_23922 := wd624
theorem mwJ1_canEncode_9a6ad : MW yJ1_canEncode_9a6ad cJ1_canEncode_9a6ad 1 (some .boolean) := ⟨wd598, wd118⟩
theorem msJ1_canEncode_9a6ad : MS yJ1_canEncode_9a6ad := wd597
theorem mwJ1_indexOf_4cfef : MW yJ1_indexOf_4cfef cJ1_indexOf_4cfef 4 (some .int) := ⟨wd595, wd118⟩
theorem msJ1_indexOf_4cfef : MS yJ1_indexOf_4cfef := wd594
theorem mwJ1_indexOfChar_4cfef : MW yJ1_indexOfChar_4cfef cJ1_indexOfChar_4cfef 6 (some .int) := ⟨wd607, wd118⟩
theorem msJ1_indexOfChar_4cfef : MS yJ1_indexOfChar_4cfef := wd606
