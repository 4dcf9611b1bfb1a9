theorem gw131 : (Jvm.Cond.initialized "NotationPress$Items") ∈ np_gw := np_gwi 131 (by decide +kernel) rfl
theorem gw133 : (Jvm.Cond.initialized "NotationPress$Trace") ∈ np_gw := np_gwi 133 (by decide +kernel) rfl
theorem gw135 : (Jvm.Cond.initialized "NotationPress$Text") ∈ np_gw := np_gwi 135 (by decide +kernel) rfl
theorem gw160 : (Jvm.Cond.instantiable "NotationPress$Items" (5 : Nat)) ∈ np_gw := np_gwi 160 (by decide +kernel) rfl
theorem gw162 : (Jvm.Cond.instanceMethod ({ cls := "NotationPress$Items", name := "<init>", desc := "()V" } : Jvm.MethodName)) ∈ np_gw := np_gwi 162 (by decide +kernel) rfl
theorem gw163 : (Jvm.Cond.code ({ cls := "NotationPress$Items", name := "<init>", desc := "()V" } : Jvm.MethodName) prog_4_method_1_code (1 : Nat) (Option.none : Option Jvm.ClassFile.FieldType)) ∈ np_gw := np_gwi 163 (by decide +kernel) rfl
theorem gw164 : (Jvm.Cond.methodLink "NotationPress$Items" (3 : Nat) ({ cls := "java/lang/Object", name := "<init>", desc := "()V" } : Jvm.MethodName)) ∈ np_gw := np_gwi 164 (by decide +kernel) rfl
theorem gw165 : (Jvm.Cond.fieldLink "NotationPress$Items" (9 : Nat) "NotationPress$Items" "kinds" "[I") ∈ np_gw := np_gwi 165 (by decide +kernel) rfl
theorem gw166 : (Jvm.Cond.fieldLink "NotationPress$Items" (15 : Nat) "NotationPress$Items" "firsts" "[I") ∈ np_gw := np_gwi 166 (by decide +kernel) rfl
theorem gw167 : (Jvm.Cond.fieldLink "NotationPress$Items" (18 : Nat) "NotationPress$Items" "seconds" "[I") ∈ np_gw := np_gwi 167 (by decide +kernel) rfl
theorem gw168 : (Jvm.Cond.fieldLink "NotationPress$Items" (21 : Nat) "NotationPress$Items" "thirds" "[I") ∈ np_gw := np_gwi 168 (by decide +kernel) rfl
theorem gw172 : (Jvm.Cond.laysFinal "NotationPress$Items" "NotationPress$Items" "kinds" "[I") ∈ np_gw := np_gwi 172 (by decide +kernel) rfl
theorem gw174 : (Jvm.Cond.laysFinal "NotationPress$Items" "NotationPress$Items" "firsts" "[I") ∈ np_gw := np_gwi 174 (by decide +kernel) rfl
theorem gw176 : (Jvm.Cond.laysFinal "NotationPress$Items" "NotationPress$Items" "seconds" "[I") ∈ np_gw := np_gwi 176 (by decide +kernel) rfl
theorem gw178 : (Jvm.Cond.laysFinal "NotationPress$Items" "NotationPress$Items" "thirds" "[I") ∈ np_gw := np_gwi 178 (by decide +kernel) rfl
theorem gw180 : (Jvm.Cond.lays "NotationPress$Items" "NotationPress$Items" "count" "I") ∈ np_gw := np_gwi 180 (by decide +kernel) rfl
theorem gw202 : (Jvm.Cond.methodLink "NotationPress$Printer" (3 : Nat) ({ cls := "java/lang/Object", name := "<init>", desc := "()V" } : Jvm.MethodName)) ∈ np_gw := np_gwi 202 (by decide +kernel) rfl
theorem gw203 : (Jvm.Cond.classLink "NotationPress$Printer" (18 : Nat) "NotationPress$Trace") ∈ np_gw := np_gwi 203 (by decide +kernel) rfl
theorem gw204 : (Jvm.Cond.instantiable "NotationPress$Trace" (9 : Nat)) ∈ np_gw := np_gwi 204 (by decide +kernel) rfl
theorem gw205 : (Jvm.Cond.methodLinkNest "NotationPress$Printer" (20 : Nat) ({ cls := "NotationPress$Trace", name := "<init>", desc := "()V" } : Jvm.MethodName) "NotationPress") ∈ np_nw := np_nwi 205 (by decide +kernel) rfl
theorem gw206 : (Jvm.Cond.instanceMethod ({ cls := "NotationPress$Trace", name := "<init>", desc := "()V" } : Jvm.MethodName)) ∈ np_gw := np_gwi 206 (by decide +kernel) rfl
theorem gw207 : (Jvm.Cond.code ({ cls := "NotationPress$Trace", name := "<init>", desc := "()V" } : Jvm.MethodName) prog_10_method_1_code (1 : Nat) (Option.none : Option Jvm.ClassFile.FieldType)) ∈ np_gw := np_gwi 207 (by decide +kernel) rfl
theorem gw247 : (Jvm.Cond.fieldLink "NotationPress$Printer" (9 : Nat) "NotationPress$Printer" "units" "[I") ∈ np_gw := np_gwi 247 (by decide +kernel) rfl
theorem gw248 : (Jvm.Cond.fieldLink "NotationPress$Printer" (15 : Nat) "NotationPress$Printer" "number" "[I") ∈ np_gw := np_gwi 248 (by decide +kernel) rfl
theorem gw249 : (Jvm.Cond.fieldLink "NotationPress$Printer" (21 : Nat) "NotationPress$Printer" "trace" "LNotationPress$Trace;") ∈ np_gw := np_gwi 249 (by decide +kernel) rfl
theorem gw250 : (Jvm.Cond.laysFinal "NotationPress$Printer" "NotationPress$Printer" "units" "[I") ∈ np_gw := np_gwi 250 (by decide +kernel) rfl
theorem gw252 : (Jvm.Cond.laysFinal "NotationPress$Printer" "NotationPress$Printer" "number" "[I") ∈ np_gw := np_gwi 252 (by decide +kernel) rfl
theorem gw254 : (Jvm.Cond.laysFinal "NotationPress$Printer" "NotationPress$Printer" "trace" "LNotationPress$Trace;") ∈ np_gw := np_gwi 254 (by decide +kernel) rfl
theorem gw262 : (Jvm.Cond.methodLink "NotationPress$Reader" (3 : Nat) ({ cls := "java/lang/Object", name := "<init>", desc := "()V" } : Jvm.MethodName)) ∈ np_gw := np_gwi 262 (by decide +kernel) rfl
theorem gw263 : (Jvm.Cond.classLink "NotationPress$Reader" (9 : Nat) "NotationPress$Trace") ∈ np_gw := np_gwi 263 (by decide +kernel) rfl
theorem gw265 : (Jvm.Cond.methodLinkNest "NotationPress$Reader" (17 : Nat) ({ cls := "NotationPress$Trace", name := "<init>", desc := "()V" } : Jvm.MethodName) "NotationPress") ∈ np_nw := np_nwi 265 (by decide +kernel) rfl
theorem gw266 : (Jvm.Cond.classLink "NotationPress$Reader" (32 : Nat) "NotationPress$Items") ∈ np_gw := np_gwi 266 (by decide +kernel) rfl
theorem gw267 : (Jvm.Cond.methodLinkNest "NotationPress$Reader" (34 : Nat) ({ cls := "NotationPress$Items", name := "<init>", desc := "()V" } : Jvm.MethodName) "NotationPress") ∈ np_nw := np_nwi 267 (by decide +kernel) rfl
theorem gw268 : (Jvm.Cond.classLink "NotationPress$Reader" (39 : Nat) "NotationPress$Text") ∈ np_gw := np_gwi 268 (by decide +kernel) rfl
theorem gw269 : (Jvm.Cond.instantiable "NotationPress$Text" (3 : Nat)) ∈ np_gw := np_gwi 269 (by decide +kernel) rfl
theorem gw270 : (Jvm.Cond.methodLinkNest "NotationPress$Reader" (41 : Nat) ({ cls := "NotationPress$Text", name := "<init>", desc := "()V" } : Jvm.MethodName) "NotationPress") ∈ np_nw := np_nwi 270 (by decide +kernel) rfl
theorem gw271 : (Jvm.Cond.instanceMethod ({ cls := "NotationPress$Text", name := "<init>", desc := "()V" } : Jvm.MethodName)) ∈ np_gw := np_gwi 271 (by decide +kernel) rfl
theorem gw272 : (Jvm.Cond.code ({ cls := "NotationPress$Text", name := "<init>", desc := "()V" } : Jvm.MethodName) prog_9_method_1_code (1 : Nat) (Option.none : Option Jvm.ClassFile.FieldType)) ∈ np_gw := np_gwi 272 (by decide +kernel) rfl
theorem gw273 : (Jvm.Cond.methodLink "NotationPress$Text" (3 : Nat) ({ cls := "java/lang/Object", name := "<init>", desc := "()V" } : Jvm.MethodName)) ∈ np_gw := np_gwi 273 (by decide +kernel) rfl
theorem gw274 : (Jvm.Cond.fieldLink "NotationPress$Text" (9 : Nat) "NotationPress$Text" "units" "[C") ∈ np_gw := np_gwi 274 (by decide +kernel) rfl
theorem gw277 : (Jvm.Cond.fieldLink "NotationPress$Text" (15 : Nat) "NotationPress$Text" "open" "Z") ∈ np_gw := np_gwi 277 (by decide +kernel) rfl
theorem gw279 : (Jvm.Cond.laysFinal "NotationPress$Text" "NotationPress$Text" "units" "[C") ∈ np_gw := np_gwi 279 (by decide +kernel) rfl
theorem gw281 : (Jvm.Cond.lays "NotationPress$Text" "NotationPress$Text" "length" "I") ∈ np_gw := np_gwi 281 (by decide +kernel) rfl
theorem gw283 : (Jvm.Cond.lays "NotationPress$Text" "NotationPress$Text" "open" "Z") ∈ np_gw := np_gwi 283 (by decide +kernel) rfl
theorem gw286 : (Jvm.Cond.arrayClass Jvm.ClassFile.FieldType.char) ∈ np_gw := np_gwi 286 (by decide +kernel) rfl
theorem gw287 : (Jvm.Cond.fieldLink "NotationPress$Reader" (11 : Nat) "NotationPress$Reader" "beginnings" "[LNotationPress$Trace;") ∈ np_gw := np_gwi 287 (by decide +kernel) rfl
theorem gw288 : (Jvm.Cond.fieldLink "NotationPress$Reader" (18 : Nat) "NotationPress$Reader" "current" "LNotationPress$Trace;") ∈ np_gw := np_gwi 288 (by decide +kernel) rfl
theorem gw290 : (Jvm.Cond.fieldLink "NotationPress$Reader" (22 : Nat) "NotationPress$Reader" "number" "[I") ∈ np_gw := np_gwi 290 (by decide +kernel) rfl
theorem gw291 : (Jvm.Cond.fieldLink "NotationPress$Reader" (26 : Nat) "NotationPress$Reader" "words" "[I") ∈ np_gw := np_gwi 291 (by decide +kernel) rfl
theorem gw292 : (Jvm.Cond.fieldLink "NotationPress$Reader" (29 : Nat) "NotationPress$Reader" "wordEnds" "[I") ∈ np_gw := np_gwi 292 (by decide +kernel) rfl
theorem gw293 : (Jvm.Cond.fieldLink "NotationPress$Reader" (35 : Nat) "NotationPress$Reader" "items" "LNotationPress$Items;") ∈ np_gw := np_gwi 293 (by decide +kernel) rfl
theorem gw294 : (Jvm.Cond.fieldLink "NotationPress$Reader" (42 : Nat) "NotationPress$Reader" "text" "LNotationPress$Text;") ∈ np_gw := np_gwi 294 (by decide +kernel) rfl
theorem gw300 : (Jvm.Cond.laysFinal "NotationPress$Reader" "NotationPress$Reader" "beginnings" "[LNotationPress$Trace;") ∈ np_gw := np_gwi 300 (by decide +kernel) rfl
theorem gw302 : (Jvm.Cond.laysFinal "NotationPress$Reader" "NotationPress$Reader" "current" "LNotationPress$Trace;") ∈ np_gw := np_gwi 302 (by decide +kernel) rfl
theorem gw304 : (Jvm.Cond.laysFinal "NotationPress$Reader" "NotationPress$Reader" "number" "[I") ∈ np_gw := np_gwi 304 (by decide +kernel) rfl
theorem gw306 : (Jvm.Cond.laysFinal "NotationPress$Reader" "NotationPress$Reader" "words" "[I") ∈ np_gw := np_gwi 306 (by decide +kernel) rfl
theorem gw308 : (Jvm.Cond.laysFinal "NotationPress$Reader" "NotationPress$Reader" "wordEnds" "[I") ∈ np_gw := np_gwi 308 (by decide +kernel) rfl
theorem gw310 : (Jvm.Cond.lays "NotationPress$Reader" "NotationPress$Reader" "items" "LNotationPress$Items;") ∈ np_gw := np_gwi 310 (by decide +kernel) rfl
theorem gw312 : (Jvm.Cond.lays "NotationPress$Reader" "NotationPress$Reader" "text" "LNotationPress$Text;") ∈ np_gw := np_gwi 312 (by decide +kernel) rfl
theorem gw314 : (Jvm.Cond.lays "NotationPress$Reader" "NotationPress$Reader" "place" "I") ∈ np_gw := np_gwi 314 (by decide +kernel) rfl
theorem gw316 : (Jvm.Cond.lays "NotationPress$Reader" "NotationPress$Reader" "kept" "I") ∈ np_gw := np_gwi 316 (by decide +kernel) rfl
theorem gw318 : (Jvm.Cond.lays "NotationPress$Reader" "NotationPress$Reader" "begun" "I") ∈ np_gw := np_gwi 318 (by decide +kernel) rfl
theorem gw320 : (Jvm.Cond.lays "NotationPress$Reader" "NotationPress$Reader" "tooFar" "Z") ∈ np_gw := np_gwi 320 (by decide +kernel) rfl
theorem gw328 : (Jvm.Cond.methodLink "NotationPress$Sampler" (3 : Nat) ({ cls := "java/lang/Object", name := "<init>", desc := "()V" } : Jvm.MethodName)) ∈ np_gw := np_gwi 328 (by decide +kernel) rfl
theorem gw329 : (Jvm.Cond.classLink "NotationPress$Sampler" (9 : Nat) "NotationPress$Trace") ∈ np_gw := np_gwi 329 (by decide +kernel) rfl
theorem gw330 : (Jvm.Cond.methodLinkNest "NotationPress$Sampler" (24 : Nat) ({ cls := "NotationPress$Trace", name := "<init>", desc := "()V" } : Jvm.MethodName) "NotationPress") ∈ np_nw := np_nwi 330 (by decide +kernel) rfl
theorem gw331 : (Jvm.Cond.fieldLink "NotationPress$Sampler" (11 : Nat) "NotationPress$Sampler" "levels" "[LNotationPress$Trace;") ∈ np_gw := np_gwi 331 (by decide +kernel) rfl
theorem gw332 : (Jvm.Cond.fieldLink "NotationPress$Sampler" (17 : Nat) "NotationPress$Sampler" "drawn" "[I") ∈ np_gw := np_gwi 332 (by decide +kernel) rfl
theorem gw333 : (Jvm.Cond.fieldLink "NotationPress$Sampler" (21 : Nat) "NotationPress$Sampler" "tried" "[I") ∈ np_gw := np_gwi 333 (by decide +kernel) rfl
theorem gw336 : (Jvm.Cond.laysFinal "NotationPress$Sampler" "NotationPress$Sampler" "levels" "[LNotationPress$Trace;") ∈ np_gw := np_gwi 336 (by decide +kernel) rfl
theorem gw338 : (Jvm.Cond.laysFinal "NotationPress$Sampler" "NotationPress$Sampler" "drawn" "[I") ∈ np_gw := np_gwi 338 (by decide +kernel) rfl
theorem gw340 : (Jvm.Cond.laysFinal "NotationPress$Sampler" "NotationPress$Sampler" "tried" "[I") ∈ np_gw := np_gwi 340 (by decide +kernel) rfl
theorem gw342 : (Jvm.Cond.lays "NotationPress$Sampler" "NotationPress$Sampler" "seed" "I") ∈ np_gw := np_gwi 342 (by decide +kernel) rfl
theorem gw344 : (Jvm.Cond.lays "NotationPress$Sampler" "NotationPress$Sampler" "depth" "I") ∈ np_gw := np_gwi 344 (by decide +kernel) rfl
theorem gw354 : (Jvm.Cond.methodLink "NotationPress$UpgradeDraft" (3 : Nat) ({ cls := "java/lang/Object", name := "<init>", desc := "()V" } : Jvm.MethodName)) ∈ np_gw := np_gwi 354 (by decide +kernel) rfl
theorem gw355 : (Jvm.Cond.methodLinkNest "NotationPress$UpgradeDraft" (21 : Nat) ({ cls := "NotationPress", name := "fillAll", desc := "([II)V" } : Jvm.MethodName) "NotationPress") ∈ np_nw := np_nwi 355 (by decide +kernel) rfl
theorem gw356 : (Jvm.Cond.fieldLink "NotationPress$UpgradeDraft" (9 : Nat) "NotationPress$UpgradeDraft" "kinds" "[I") ∈ np_gw := np_gwi 356 (by decide +kernel) rfl
theorem gw358 : (Jvm.Cond.fieldLink "NotationPress$UpgradeDraft" (15 : Nat) "NotationPress$UpgradeDraft" "firsts" "[I") ∈ np_gw := np_gwi 358 (by decide +kernel) rfl
theorem gw360 : (Jvm.Cond.fieldLink "NotationPress$UpgradeDraft" (18 : Nat) "NotationPress$UpgradeDraft" "seconds" "[I") ∈ np_gw := np_gwi 360 (by decide +kernel) rfl
theorem gw362 : (Jvm.Cond.laysFinal "NotationPress$UpgradeDraft" "NotationPress$UpgradeDraft" "kinds" "[I") ∈ np_gw := np_gwi 362 (by decide +kernel) rfl
theorem gw364 : (Jvm.Cond.laysFinal "NotationPress$UpgradeDraft" "NotationPress$UpgradeDraft" "firsts" "[I") ∈ np_gw := np_gwi 364 (by decide +kernel) rfl
theorem gw366 : (Jvm.Cond.laysFinal "NotationPress$UpgradeDraft" "NotationPress$UpgradeDraft" "seconds" "[I") ∈ np_gw := np_gwi 366 (by decide +kernel) rfl
theorem gw375 : (Jvm.Cond.methodLink "NotationPress$Description" (3 : Nat) ({ cls := "java/lang/Object", name := "<init>", desc := "()V" } : Jvm.MethodName)) ∈ np_gw := np_gwi 375 (by decide +kernel) rfl
theorem gw376 : (Jvm.Cond.classLink "NotationPress$Description" (9 : Nat) "NotationPress$Items") ∈ np_gw := np_gwi 376 (by decide +kernel) rfl
theorem gw377 : (Jvm.Cond.methodLinkNest "NotationPress$Description" (11 : Nat) ({ cls := "NotationPress$Items", name := "<init>", desc := "()V" } : Jvm.MethodName) "NotationPress") ∈ np_nw := np_nwi 377 (by decide +kernel) rfl
theorem gw378 : (Jvm.Cond.fieldLink "NotationPress$Description" (12 : Nat) "NotationPress$Description" "items" "LNotationPress$Items;") ∈ np_gw := np_gwi 378 (by decide +kernel) rfl
theorem gw381 : (Jvm.Cond.fieldLink "NotationPress$Description" (18 : Nat) "NotationPress$Description" "kinds" "[I") ∈ np_gw := np_gwi 381 (by decide +kernel) rfl
theorem gw382 : (Jvm.Cond.fieldLink "NotationPress$Description" (22 : Nat) "NotationPress$Description" "firsts" "[I") ∈ np_gw := np_gwi 382 (by decide +kernel) rfl
theorem gw383 : (Jvm.Cond.fieldLink "NotationPress$Description" (25 : Nat) "NotationPress$Description" "seconds" "[I") ∈ np_gw := np_gwi 383 (by decide +kernel) rfl
theorem gw384 : (Jvm.Cond.fieldLink "NotationPress$Description" (28 : Nat) "NotationPress$Description" "thirds" "[I") ∈ np_gw := np_gwi 384 (by decide +kernel) rfl
theorem gw385 : (Jvm.Cond.fieldLink "NotationPress$Description" (31 : Nat) "NotationPress$Description" "messages" "[I") ∈ np_gw := np_gwi 385 (by decide +kernel) rfl
theorem gw388 : (Jvm.Cond.laysFinal "NotationPress$Description" "NotationPress$Description" "items" "LNotationPress$Items;") ∈ np_gw := np_gwi 388 (by decide +kernel) rfl
theorem gw390 : (Jvm.Cond.laysFinal "NotationPress$Description" "NotationPress$Description" "kinds" "[I") ∈ np_gw := np_gwi 390 (by decide +kernel) rfl
theorem gw392 : (Jvm.Cond.laysFinal "NotationPress$Description" "NotationPress$Description" "firsts" "[I") ∈ np_gw := np_gwi 392 (by decide +kernel) rfl
theorem gw394 : (Jvm.Cond.laysFinal "NotationPress$Description" "NotationPress$Description" "seconds" "[I") ∈ np_gw := np_gwi 394 (by decide +kernel) rfl
theorem gw396 : (Jvm.Cond.laysFinal "NotationPress$Description" "NotationPress$Description" "thirds" "[I") ∈ np_gw := np_gwi 396 (by decide +kernel) rfl
theorem gw398 : (Jvm.Cond.laysFinal "NotationPress$Description" "NotationPress$Description" "messages" "[I") ∈ np_gw := np_gwi 398 (by decide +kernel) rfl
theorem gw400 : (Jvm.Cond.lays "NotationPress$Description" "NotationPress$Description" "count" "I") ∈ np_gw := np_gwi 400 (by decide +kernel) rfl
theorem gw408 : (Jvm.Cond.methodLink "NotationPress$Table" (3 : Nat) ({ cls := "java/lang/Object", name := "<init>", desc := "()V" } : Jvm.MethodName)) ∈ np_gw := np_gwi 408 (by decide +kernel) rfl
theorem gw409 : (Jvm.Cond.methodLinkNest "NotationPress$Table" (27 : Nat) ({ cls := "NotationPress", name := "fillAll", desc := "([II)V" } : Jvm.MethodName) "NotationPress") ∈ np_nw := np_nwi 409 (by decide +kernel) rfl
theorem gw410 : (Jvm.Cond.fieldLink "NotationPress$Table" (9 : Nat) "NotationPress$Table" "rows" "[I") ∈ np_gw := np_gwi 410 (by decide +kernel) rfl
theorem gw412 : (Jvm.Cond.fieldLink "NotationPress$Table" (15 : Nat) "NotationPress$Table" "ledger" "[I") ∈ np_gw := np_gwi 412 (by decide +kernel) rfl
theorem gw414 : (Jvm.Cond.fieldLink "NotationPress$Table" (18 : Nat) "NotationPress$Table" "bucketFirst" "[I") ∈ np_gw := np_gwi 414 (by decide +kernel) rfl
theorem gw415 : (Jvm.Cond.fieldLink "NotationPress$Table" (21 : Nat) "NotationPress$Table" "bucketLast" "[I") ∈ np_gw := np_gwi 415 (by decide +kernel) rfl
theorem gw416 : (Jvm.Cond.fieldLink "NotationPress$Table" (24 : Nat) "NotationPress$Table" "nextInBucket" "[I") ∈ np_gw := np_gwi 416 (by decide +kernel) rfl
theorem gw429 : (Jvm.Cond.laysFinal "NotationPress$Table" "NotationPress$Table" "rows" "[I") ∈ np_gw := np_gwi 429 (by decide +kernel) rfl
theorem gw431 : (Jvm.Cond.laysFinal "NotationPress$Table" "NotationPress$Table" "ledger" "[I") ∈ np_gw := np_gwi 431 (by decide +kernel) rfl
theorem gw433 : (Jvm.Cond.laysFinal "NotationPress$Table" "NotationPress$Table" "bucketFirst" "[I") ∈ np_gw := np_gwi 433 (by decide +kernel) rfl
theorem gw435 : (Jvm.Cond.laysFinal "NotationPress$Table" "NotationPress$Table" "bucketLast" "[I") ∈ np_gw := np_gwi 435 (by decide +kernel) rfl
theorem gw437 : (Jvm.Cond.laysFinal "NotationPress$Table" "NotationPress$Table" "nextInBucket" "[I") ∈ np_gw := np_gwi 437 (by decide +kernel) rfl
theorem gw439 : (Jvm.Cond.lays "NotationPress$Table" "NotationPress$Table" "description" "LNotationPress$Description;") ∈ np_gw := np_gwi 439 (by decide +kernel) rfl
theorem gw441 : (Jvm.Cond.lays "NotationPress$Table" "NotationPress$Table" "place" "I") ∈ np_gw := np_gwi 441 (by decide +kernel) rfl
theorem gw443 : (Jvm.Cond.lays "NotationPress$Table" "NotationPress$Table" "rowCount" "I") ∈ np_gw := np_gwi 443 (by decide +kernel) rfl
theorem gw445 : (Jvm.Cond.lays "NotationPress$Table" "NotationPress$Table" "doubts" "I") ∈ np_gw := np_gwi 445 (by decide +kernel) rfl
theorem gw447 : (Jvm.Cond.lays "NotationPress$Table" "NotationPress$Table" "skippedCount" "I") ∈ np_gw := np_gwi 447 (by decide +kernel) rfl
theorem gw449 : (Jvm.Cond.lays "NotationPress$Table" "NotationPress$Table" "right" "I") ∈ np_gw := np_gwi 449 (by decide +kernel) rfl
theorem gw451 : (Jvm.Cond.lays "NotationPress$Table" "NotationPress$Table" "why" "I") ∈ np_gw := np_gwi 451 (by decide +kernel) rfl
theorem gw458 : (Jvm.Cond.methodLink "NotationPress$Column" (3 : Nat) ({ cls := "java/lang/Object", name := "<init>", desc := "()V" } : Jvm.MethodName)) ∈ np_gw := np_gwi 458 (by decide +kernel) rfl
theorem gw459 : (Jvm.Cond.fieldLink "NotationPress$Column" (9 : Nat) "NotationPress$Column" "base" "[I") ∈ np_gw := np_gwi 459 (by decide +kernel) rfl
theorem gw460 : (Jvm.Cond.fieldLink "NotationPress$Column" (15 : Nat) "NotationPress$Column" "values" "[I") ∈ np_gw := np_gwi 460 (by decide +kernel) rfl
theorem gw461 : (Jvm.Cond.fieldLink "NotationPress$Column" (18 : Nat) "NotationPress$Column" "table" "LNotationPress$Table;") ∈ np_gw := np_gwi 461 (by decide +kernel) rfl
theorem gw465 : (Jvm.Cond.laysFinal "NotationPress$Column" "NotationPress$Column" "base" "[I") ∈ np_gw := np_gwi 465 (by decide +kernel) rfl
theorem gw467 : (Jvm.Cond.laysFinal "NotationPress$Column" "NotationPress$Column" "values" "[I") ∈ np_gw := np_gwi 467 (by decide +kernel) rfl
theorem gw469 : (Jvm.Cond.lays "NotationPress$Column" "NotationPress$Column" "table" "LNotationPress$Table;") ∈ np_gw := np_gwi 469 (by decide +kernel) rfl
theorem gw471 : (Jvm.Cond.lays "NotationPress$Column" "NotationPress$Column" "kind" "I") ∈ np_gw := np_gwi 471 (by decide +kernel) rfl
theorem gw473 : (Jvm.Cond.lays "NotationPress$Column" "NotationPress$Column" "slot" "I") ∈ np_gw := np_gwi 473 (by decide +kernel) rfl
theorem gw475 : (Jvm.Cond.lays "NotationPress$Column" "NotationPress$Column" "window" "I") ∈ np_gw := np_gwi 475 (by decide +kernel) rfl
theorem gw482 : (Jvm.Cond.methodLink "NotationPress$Upgrade" (3 : Nat) ({ cls := "java/lang/Object", name := "<init>", desc := "()V" } : Jvm.MethodName)) ∈ np_gw := np_gwi 482 (by decide +kernel) rfl
theorem gw483 : (Jvm.Cond.fieldLink "NotationPress$Upgrade" (9 : Nat) "NotationPress$Upgrade" "kinds" "[I") ∈ np_gw := np_gwi 483 (by decide +kernel) rfl
theorem gw484 : (Jvm.Cond.fieldLink "NotationPress$Upgrade" (15 : Nat) "NotationPress$Upgrade" "numbers" "[I") ∈ np_gw := np_gwi 484 (by decide +kernel) rfl
theorem gw485 : (Jvm.Cond.fieldLink "NotationPress$Upgrade" (18 : Nat) "NotationPress$Upgrade" "ends" "[I") ∈ np_gw := np_gwi 485 (by decide +kernel) rfl
theorem gw486 : (Jvm.Cond.fieldLink "NotationPress$Upgrade" (21 : Nat) "NotationPress$Upgrade" "stack" "[I") ∈ np_gw := np_gwi 486 (by decide +kernel) rfl
theorem gw487 : (Jvm.Cond.fieldLink "NotationPress$Upgrade" (24 : Nat) "NotationPress$Upgrade" "pathKinds" "[I") ∈ np_gw := np_gwi 487 (by decide +kernel) rfl
theorem gw488 : (Jvm.Cond.fieldLink "NotationPress$Upgrade" (27 : Nat) "NotationPress$Upgrade" "pathNumbers" "[I") ∈ np_gw := np_gwi 488 (by decide +kernel) rfl
theorem gw491 : (Jvm.Cond.laysFinal "NotationPress$Upgrade" "NotationPress$Upgrade" "kinds" "[I") ∈ np_gw := np_gwi 491 (by decide +kernel) rfl
theorem gw493 : (Jvm.Cond.laysFinal "NotationPress$Upgrade" "NotationPress$Upgrade" "numbers" "[I") ∈ np_gw := np_gwi 493 (by decide +kernel) rfl
theorem gw495 : (Jvm.Cond.laysFinal "NotationPress$Upgrade" "NotationPress$Upgrade" "ends" "[I") ∈ np_gw := np_gwi 495 (by decide +kernel) rfl
theorem gw497 : (Jvm.Cond.laysFinal "NotationPress$Upgrade" "NotationPress$Upgrade" "stack" "[I") ∈ np_gw := np_gwi 497 (by decide +kernel) rfl
theorem gw499 : (Jvm.Cond.laysFinal "NotationPress$Upgrade" "NotationPress$Upgrade" "pathKinds" "[I") ∈ np_gw := np_gwi 499 (by decide +kernel) rfl
theorem gw501 : (Jvm.Cond.laysFinal "NotationPress$Upgrade" "NotationPress$Upgrade" "pathNumbers" "[I") ∈ np_gw := np_gwi 501 (by decide +kernel) rfl
theorem gw503 : (Jvm.Cond.lays "NotationPress$Upgrade" "NotationPress$Upgrade" "length" "I") ∈ np_gw := np_gwi 503 (by decide +kernel) rfl
set_option maxRecDepth 20000 in
theorem guX0 : ∀ w ∈ u_ws RX0 TX0 6, w ∈ np_gw := by
  show ∀ w ∈ [(Jvm.Cond.laysFinal "NotationPress$Column" "NotationPress$Column" "base" "[I"), (Jvm.Cond.laysFinal "NotationPress$Column" "NotationPress$Column" "values" "[I"), (Jvm.Cond.lays "NotationPress$Column" "NotationPress$Column" "table" "LNotationPress$Table;"), (Jvm.Cond.lays "NotationPress$Column" "NotationPress$Column" "kind" "I"), (Jvm.Cond.lays "NotationPress$Column" "NotationPress$Column" "slot" "I"), (Jvm.Cond.lays "NotationPress$Column" "NotationPress$Column" "window" "I")], w ∈ np_gw
  exact List.forall_mem_cons.mpr ⟨gw465, List.forall_mem_cons.mpr ⟨gw467, List.forall_mem_cons.mpr ⟨gw469, List.forall_mem_cons.mpr ⟨gw471, List.forall_mem_cons.mpr ⟨gw473, List.forall_mem_cons.mpr ⟨gw475, fun _ h => nomatch h⟩⟩⟩⟩⟩⟩
theorem ndX0 : ∀ j, j < 6 → defaultValue (tyX0 j) = vp_V [.null, .null, .null, .int 0, .int 0, .int 0] j := by decide +kernel
theorem nfX0 : ∀ v ∈ ([.null, .null, .null, .int 0, .int 0, .int 0] : List Value), ∀ ad : Nat → Nat, np_v ad v = v := by
  intro v hv ad
  simp only [List.mem_cons, List.not_mem_nil, or_false] at hv
  rcases hv with rfl | rfl | rfl | rfl | rfl | rfl <;> rfl
set_option maxRecDepth 20000 in
theorem guX1 : ∀ w ∈ u_ws RX1 TX1 7, w ∈ np_gw := by
  show ∀ w ∈ [(Jvm.Cond.laysFinal "NotationPress$Description" "NotationPress$Description" "items" "LNotationPress$Items;"), (Jvm.Cond.laysFinal "NotationPress$Description" "NotationPress$Description" "kinds" "[I"), (Jvm.Cond.laysFinal "NotationPress$Description" "NotationPress$Description" "firsts" "[I"), (Jvm.Cond.laysFinal "NotationPress$Description" "NotationPress$Description" "seconds" "[I"), (Jvm.Cond.laysFinal "NotationPress$Description" "NotationPress$Description" "thirds" "[I"), (Jvm.Cond.laysFinal "NotationPress$Description" "NotationPress$Description" "messages" "[I"), (Jvm.Cond.lays "NotationPress$Description" "NotationPress$Description" "count" "I")], w ∈ np_gw
  exact List.forall_mem_cons.mpr ⟨gw388, List.forall_mem_cons.mpr ⟨gw390, List.forall_mem_cons.mpr ⟨gw392, List.forall_mem_cons.mpr ⟨gw394, List.forall_mem_cons.mpr ⟨gw396, List.forall_mem_cons.mpr ⟨gw398, List.forall_mem_cons.mpr ⟨gw400, fun _ h => nomatch h⟩⟩⟩⟩⟩⟩⟩
theorem ndX1 : ∀ j, j < 7 → defaultValue (tyX1 j) = vp_V [.null, .null, .null, .null, .null, .null, .int 0] j := by decide +kernel
theorem nfX1 : ∀ v ∈ ([.null, .null, .null, .null, .null, .null, .int 0] : List Value), ∀ ad : Nat → Nat, np_v ad v = v := by
  intro v hv ad
  simp only [List.mem_cons, List.not_mem_nil, or_false] at hv
  rcases hv with rfl | rfl | rfl | rfl | rfl | rfl | rfl <;> rfl
set_option maxRecDepth 20000 in
theorem guX2 : ∀ w ∈ u_ws RX2 TX2 5, w ∈ np_gw := by
  show ∀ w ∈ [(Jvm.Cond.laysFinal "NotationPress$Items" "NotationPress$Items" "kinds" "[I"), (Jvm.Cond.laysFinal "NotationPress$Items" "NotationPress$Items" "firsts" "[I"), (Jvm.Cond.laysFinal "NotationPress$Items" "NotationPress$Items" "seconds" "[I"), (Jvm.Cond.laysFinal "NotationPress$Items" "NotationPress$Items" "thirds" "[I"), (Jvm.Cond.lays "NotationPress$Items" "NotationPress$Items" "count" "I")], w ∈ np_gw
  exact List.forall_mem_cons.mpr ⟨gw172, List.forall_mem_cons.mpr ⟨gw174, List.forall_mem_cons.mpr ⟨gw176, List.forall_mem_cons.mpr ⟨gw178, List.forall_mem_cons.mpr ⟨gw180, fun _ h => nomatch h⟩⟩⟩⟩⟩
theorem ndX2 : ∀ j, j < 5 → defaultValue (tyX2 j) = vp_V [.null, .null, .null, .null, .int 0] j := by decide +kernel
theorem nfX2 : ∀ v ∈ ([.null, .null, .null, .null, .int 0] : List Value), ∀ ad : Nat → Nat, np_v ad v = v := by
  intro v hv ad
  simp only [List.mem_cons, List.not_mem_nil, or_false] at hv
  rcases hv with rfl | rfl | rfl | rfl | rfl <;> rfl
set_option maxRecDepth 20000 in
theorem guX3 : ∀ w ∈ u_ws RX3 TX3 3, w ∈ np_gw := by
  show ∀ w ∈ [(Jvm.Cond.laysFinal "NotationPress$Printer" "NotationPress$Printer" "units" "[I"), (Jvm.Cond.laysFinal "NotationPress$Printer" "NotationPress$Printer" "number" "[I"), (Jvm.Cond.laysFinal "NotationPress$Printer" "NotationPress$Printer" "trace" "LNotationPress$Trace;")], w ∈ np_gw
  exact List.forall_mem_cons.mpr ⟨gw250, List.forall_mem_cons.mpr ⟨gw252, List.forall_mem_cons.mpr ⟨gw254, fun _ h => nomatch h⟩⟩⟩
theorem ndX3 : ∀ j, j < 3 → defaultValue (tyX3 j) = vp_V [.null, .null, .null] j := by decide +kernel
theorem nfX3 : ∀ v ∈ ([.null, .null, .null] : List Value), ∀ ad : Nat → Nat, np_v ad v = v := by
  intro v hv ad
  simp only [List.mem_cons, List.not_mem_nil, or_false] at hv
  rcases hv with rfl | rfl | rfl <;> rfl
set_option maxRecDepth 20000 in
theorem guX4 : ∀ w ∈ u_ws RX4 TX4 11, w ∈ np_gw := by
  show ∀ w ∈ [(Jvm.Cond.laysFinal "NotationPress$Reader" "NotationPress$Reader" "beginnings" "[LNotationPress$Trace;"), (Jvm.Cond.laysFinal "NotationPress$Reader" "NotationPress$Reader" "current" "LNotationPress$Trace;"), (Jvm.Cond.laysFinal "NotationPress$Reader" "NotationPress$Reader" "number" "[I"), (Jvm.Cond.laysFinal "NotationPress$Reader" "NotationPress$Reader" "words" "[I"), (Jvm.Cond.laysFinal "NotationPress$Reader" "NotationPress$Reader" "wordEnds" "[I"), (Jvm.Cond.lays "NotationPress$Reader" "NotationPress$Reader" "items" "LNotationPress$Items;"), (Jvm.Cond.lays "NotationPress$Reader" "NotationPress$Reader" "text" "LNotationPress$Text;"), (Jvm.Cond.lays "NotationPress$Reader" "NotationPress$Reader" "place" "I"), (Jvm.Cond.lays "NotationPress$Reader" "NotationPress$Reader" "kept" "I"), (Jvm.Cond.lays "NotationPress$Reader" "NotationPress$Reader" "begun" "I"), (Jvm.Cond.lays "NotationPress$Reader" "NotationPress$Reader" "tooFar" "Z")], w ∈ np_gw
  exact List.forall_mem_cons.mpr ⟨gw300, List.forall_mem_cons.mpr ⟨gw302, List.forall_mem_cons.mpr ⟨gw304, List.forall_mem_cons.mpr ⟨gw306, List.forall_mem_cons.mpr ⟨gw308, List.forall_mem_cons.mpr ⟨gw310, List.forall_mem_cons.mpr ⟨gw312, List.forall_mem_cons.mpr ⟨gw314, List.forall_mem_cons.mpr ⟨gw316, List.forall_mem_cons.mpr ⟨gw318, List.forall_mem_cons.mpr ⟨gw320, fun _ h => nomatch h⟩⟩⟩⟩⟩⟩⟩⟩⟩⟩⟩
theorem ndX4 : ∀ j, j < 11 → defaultValue (tyX4 j) = vp_V [.null, .null, .null, .null, .null, .null, .null, .int 0, .int 0, .int 0, .int 0] j := by decide +kernel
theorem nfX4 : ∀ v ∈ ([.null, .null, .null, .null, .null, .null, .null, .int 0, .int 0, .int 0, .int 0] : List Value), ∀ ad : Nat → Nat, np_v ad v = v := by
  intro v hv ad
  simp only [List.mem_cons, List.not_mem_nil, or_false] at hv
  rcases hv with rfl | rfl | rfl | rfl | rfl | rfl | rfl | rfl | rfl | rfl | rfl <;> rfl
set_option maxRecDepth 20000 in
theorem guX5 : ∀ w ∈ u_ws RX5 TX5 5, w ∈ np_gw := by
  show ∀ w ∈ [(Jvm.Cond.laysFinal "NotationPress$Sampler" "NotationPress$Sampler" "levels" "[LNotationPress$Trace;"), (Jvm.Cond.laysFinal "NotationPress$Sampler" "NotationPress$Sampler" "drawn" "[I"), (Jvm.Cond.laysFinal "NotationPress$Sampler" "NotationPress$Sampler" "tried" "[I"), (Jvm.Cond.lays "NotationPress$Sampler" "NotationPress$Sampler" "seed" "I"), (Jvm.Cond.lays "NotationPress$Sampler" "NotationPress$Sampler" "depth" "I")], w ∈ np_gw
  exact List.forall_mem_cons.mpr ⟨gw336, List.forall_mem_cons.mpr ⟨gw338, List.forall_mem_cons.mpr ⟨gw340, List.forall_mem_cons.mpr ⟨gw342, List.forall_mem_cons.mpr ⟨gw344, fun _ h => nomatch h⟩⟩⟩⟩⟩
theorem ndX5 : ∀ j, j < 5 → defaultValue (tyX5 j) = vp_V [.null, .null, .null, .int 0, .int 0] j := by decide +kernel
theorem nfX5 : ∀ v ∈ ([.null, .null, .null, .int 0, .int 0] : List Value), ∀ ad : Nat → Nat, np_v ad v = v := by
  intro v hv ad
  simp only [List.mem_cons, List.not_mem_nil, or_false] at hv
  rcases hv with rfl | rfl | rfl | rfl | rfl <;> rfl
set_option maxRecDepth 20000 in
theorem guX6 : ∀ w ∈ u_ws RX6 TX6 12, w ∈ np_gw := by
  show ∀ w ∈ [(Jvm.Cond.laysFinal "NotationPress$Table" "NotationPress$Table" "rows" "[I"), (Jvm.Cond.laysFinal "NotationPress$Table" "NotationPress$Table" "ledger" "[I"), (Jvm.Cond.laysFinal "NotationPress$Table" "NotationPress$Table" "bucketFirst" "[I"), (Jvm.Cond.laysFinal "NotationPress$Table" "NotationPress$Table" "bucketLast" "[I"), (Jvm.Cond.laysFinal "NotationPress$Table" "NotationPress$Table" "nextInBucket" "[I"), (Jvm.Cond.lays "NotationPress$Table" "NotationPress$Table" "description" "LNotationPress$Description;"), (Jvm.Cond.lays "NotationPress$Table" "NotationPress$Table" "place" "I"), (Jvm.Cond.lays "NotationPress$Table" "NotationPress$Table" "rowCount" "I"), (Jvm.Cond.lays "NotationPress$Table" "NotationPress$Table" "doubts" "I"), (Jvm.Cond.lays "NotationPress$Table" "NotationPress$Table" "skippedCount" "I"), (Jvm.Cond.lays "NotationPress$Table" "NotationPress$Table" "right" "I"), (Jvm.Cond.lays "NotationPress$Table" "NotationPress$Table" "why" "I")], w ∈ np_gw
  exact List.forall_mem_cons.mpr ⟨gw429, List.forall_mem_cons.mpr ⟨gw431, List.forall_mem_cons.mpr ⟨gw433, List.forall_mem_cons.mpr ⟨gw435, List.forall_mem_cons.mpr ⟨gw437, List.forall_mem_cons.mpr ⟨gw439, List.forall_mem_cons.mpr ⟨gw441, List.forall_mem_cons.mpr ⟨gw443, List.forall_mem_cons.mpr ⟨gw445, List.forall_mem_cons.mpr ⟨gw447, List.forall_mem_cons.mpr ⟨gw449, List.forall_mem_cons.mpr ⟨gw451, fun _ h => nomatch h⟩⟩⟩⟩⟩⟩⟩⟩⟩⟩⟩⟩
theorem ndX6 : ∀ j, j < 12 → defaultValue (tyX6 j) = vp_V [.null, .null, .null, .null, .null, .null, .int 0, .int 0, .int 0, .int 0, .int 0, .int 0] j := by decide +kernel
theorem nfX6 : ∀ v ∈ ([.null, .null, .null, .null, .null, .null, .int 0, .int 0, .int 0, .int 0, .int 0, .int 0] : List Value), ∀ ad : Nat → Nat, np_v ad v = v := by
  intro v hv ad
  simp only [List.mem_cons, List.not_mem_nil, or_false] at hv
  rcases hv with rfl | rfl | rfl | rfl | rfl | rfl | rfl | rfl | rfl | rfl | rfl | rfl <;> rfl
set_option maxRecDepth 20000 in
theorem guX7 : ∀ w ∈ u_ws RX7 TX7 3, w ∈ np_gw := by
  show ∀ w ∈ [(Jvm.Cond.laysFinal "NotationPress$Text" "NotationPress$Text" "units" "[C"), (Jvm.Cond.lays "NotationPress$Text" "NotationPress$Text" "length" "I"), (Jvm.Cond.lays "NotationPress$Text" "NotationPress$Text" "open" "Z")], w ∈ np_gw
  exact List.forall_mem_cons.mpr ⟨gw279, List.forall_mem_cons.mpr ⟨gw281, List.forall_mem_cons.mpr ⟨gw283, fun _ h => nomatch h⟩⟩⟩
theorem ndX7 : ∀ j, j < 3 → defaultValue (tyX7 j) = vp_V [.null, .int 0, .int 0] j := by decide +kernel
theorem nfX7 : ∀ v ∈ ([.null, .int 0, .int 0] : List Value), ∀ ad : Nat → Nat, np_v ad v = v := by
  intro v hv ad
  simp only [List.mem_cons, List.not_mem_nil, or_false] at hv
  rcases hv with rfl | rfl | rfl <;> rfl
set_option maxRecDepth 20000 in
theorem guX9 : ∀ w ∈ u_ws RX9 TX9 7, w ∈ np_gw := by
  show ∀ w ∈ [(Jvm.Cond.laysFinal "NotationPress$Upgrade" "NotationPress$Upgrade" "kinds" "[I"), (Jvm.Cond.laysFinal "NotationPress$Upgrade" "NotationPress$Upgrade" "numbers" "[I"), (Jvm.Cond.laysFinal "NotationPress$Upgrade" "NotationPress$Upgrade" "ends" "[I"), (Jvm.Cond.laysFinal "NotationPress$Upgrade" "NotationPress$Upgrade" "stack" "[I"), (Jvm.Cond.laysFinal "NotationPress$Upgrade" "NotationPress$Upgrade" "pathKinds" "[I"), (Jvm.Cond.laysFinal "NotationPress$Upgrade" "NotationPress$Upgrade" "pathNumbers" "[I"), (Jvm.Cond.lays "NotationPress$Upgrade" "NotationPress$Upgrade" "length" "I")], w ∈ np_gw
  exact List.forall_mem_cons.mpr ⟨gw491, List.forall_mem_cons.mpr ⟨gw493, List.forall_mem_cons.mpr ⟨gw495, List.forall_mem_cons.mpr ⟨gw497, List.forall_mem_cons.mpr ⟨gw499, List.forall_mem_cons.mpr ⟨gw501, List.forall_mem_cons.mpr ⟨gw503, fun _ h => nomatch h⟩⟩⟩⟩⟩⟩⟩
theorem ndX9 : ∀ j, j < 7 → defaultValue (tyX9 j) = vp_V [.null, .null, .null, .null, .null, .null, .int 0] j := by decide +kernel
theorem nfX9 : ∀ v ∈ ([.null, .null, .null, .null, .null, .null, .int 0] : List Value), ∀ ad : Nat → Nat, np_v ad v = v := by
  intro v hv ad
  simp only [List.mem_cons, List.not_mem_nil, or_false] at hv
  rcases hv with rfl | rfl | rfl | rfl | rfl | rfl | rfl <;> rfl
set_option maxRecDepth 20000 in
theorem guX10 : ∀ w ∈ u_ws RX10 TX10 3, w ∈ np_gw := by
  show ∀ w ∈ [(Jvm.Cond.laysFinal "NotationPress$UpgradeDraft" "NotationPress$UpgradeDraft" "kinds" "[I"), (Jvm.Cond.laysFinal "NotationPress$UpgradeDraft" "NotationPress$UpgradeDraft" "firsts" "[I"), (Jvm.Cond.laysFinal "NotationPress$UpgradeDraft" "NotationPress$UpgradeDraft" "seconds" "[I")], w ∈ np_gw
  exact List.forall_mem_cons.mpr ⟨gw362, List.forall_mem_cons.mpr ⟨gw364, List.forall_mem_cons.mpr ⟨gw366, fun _ h => nomatch h⟩⟩⟩
theorem ndX10 : ∀ j, j < 3 → defaultValue (tyX10 j) = vp_V [.null, .null, .null] j := by decide +kernel
theorem nfX10 : ∀ v ∈ ([.null, .null, .null] : List Value), ∀ ad : Nat → Nat, np_v ad v = v := by
  intro v hv ad
  simp only [List.mem_cons, List.not_mem_nil, or_false] at hv
  rcases hv with rfl | rfl | rfl <;> rfl
theorem dX2_init_0 : decode cX2_init 0 = .ok (.aload_n 0, 1) := by decide +kernel
theorem dX2_init_1 : decode cX2_init 1 = .ok (.invokespecial 3, 3) := by decide +kernel
theorem dX2_init_4 : decode cX2_init 4 = .ok (.aload_n 0, 1) := by decide +kernel
theorem dX2_init_5 : decode cX2_init 5 = .ok (.bipush 14, 2) := by decide +kernel
theorem dX2_init_7 : decode cX2_init 7 = .ok (.newarray .int, 2) := by decide +kernel
theorem dX2_init_9 : decode cX2_init 9 = .ok (.putfield 9, 3) := by decide +kernel
theorem dX2_init_12 : decode cX2_init 12 = .ok (.aload_n 0, 1) := by decide +kernel
theorem dX2_init_13 : decode cX2_init 13 = .ok (.bipush 14, 2) := by decide +kernel
theorem dX2_init_15 : decode cX2_init 15 = .ok (.newarray .int, 2) := by decide +kernel
theorem dX2_init_17 : decode cX2_init 17 = .ok (.putfield 15, 3) := by decide +kernel
theorem dX2_init_20 : decode cX2_init 20 = .ok (.aload_n 0, 1) := by decide +kernel
theorem dX2_init_21 : decode cX2_init 21 = .ok (.bipush 14, 2) := by decide +kernel
theorem dX2_init_23 : decode cX2_init 23 = .ok (.newarray .int, 2) := by decide +kernel
theorem dX2_init_25 : decode cX2_init 25 = .ok (.putfield 18, 3) := by decide +kernel
theorem dX2_init_28 : decode cX2_init 28 = .ok (.aload_n 0, 1) := by decide +kernel
theorem dX2_init_29 : decode cX2_init 29 = .ok (.bipush 14, 2) := by decide +kernel
theorem dX2_init_31 : decode cX2_init 31 = .ok (.newarray .int, 2) := by decide +kernel
theorem dX2_init_33 : decode cX2_init 33 = .ok (.putfield 21, 3) := by decide +kernel
theorem dX2_init_36 : decode cX2_init 36 = .ok (.return_, 1) := by decide +kernel
def is_X2_init (Rt : np_Rt) : List (Nat × np_Op) := [(0, np_ald 1 0), (1, np_oinit), (4, np_ald 1 0), (5, np_push 2 (.int 14)), (7, nq_newa .int 14 (14, .inl fun _ => 0) 4 56), (9, nq_putf 2 0 (.array .int)), (12, np_ald 1 0), (13, np_push 2 (.int 14)), (15, nq_newa .int 14 (14, .inl fun _ => 0) 4 56), (17, nq_putf 2 1 (.array .int)), (20, np_ald 1 0), (21, np_push 2 (.int 14)), (23, nq_newa .int 14 (14, .inl fun _ => 0) 4 56), (25, nq_putf 2 2 (.array .int)), (28, np_ald 1 0), (29, np_push 2 (.int 14)), (31, nq_newa .int 14 (14, .inl fun _ => 0) 4 56), (33, nq_putf 2 3 (.array .int)), (36, np_ret Rt)]
set_option maxRecDepth 20000 in
theorem so_X2_init {X : np_Ctx} {Rt : np_Rt} (hX : np_ok RX2 cX2_init 1 1 20 4 56 .return_ X) (hmn : np_mn X = "<init>") (hR : ∀ st w ce sl, Rt st w ce sl → X.2.2.1 st w ce sl) : ∀ q ∈ is_X2_init Rt, np_S X q.1 q.2 :=
  List.forall_mem_cons.mpr ⟨np_s_aload_n hX dX2_init_0 rfl, List.forall_mem_cons.mpr ⟨np_s_oinit hX dX2_init_1 gw164 gw157 gw158 (by decide) (by decide), List.forall_mem_cons.mpr ⟨np_s_aload_n hX dX2_init_4 rfl, List.forall_mem_cons.mpr ⟨np_s_bipush hX dX2_init_5 (by decide), List.forall_mem_cons.mpr ⟨np_S.mono (op := np_newa .int 14 (14, .inl fun _ => 0) 4 56) (np_s_newa hX dX2_init_7 rfl gw183 (by decide) (by intro C h; cases h) (by decide) (fun _ => vp_cell_i _ _ _) (by decide) (fun _ _ => rfl) (fun _ => trivial)) nq_newa_le, List.forall_mem_cons.mpr ⟨np_S.mono (op := np_putf 2 0 (.array .int)) (np_s_putF hX dX2_init_9 hmn (C := RX2) (T := TX2) (N := 5) (ty0 := tyX2) rfl guX2 tyX2_ok nmX2 (by decide) gw165 rfl rfl rfl) nq_putf_le, List.forall_mem_cons.mpr ⟨np_s_aload_n hX dX2_init_12 rfl, List.forall_mem_cons.mpr ⟨np_s_bipush hX dX2_init_13 (by decide), List.forall_mem_cons.mpr ⟨np_S.mono (op := np_newa .int 14 (14, .inl fun _ => 0) 4 56) (np_s_newa hX dX2_init_15 rfl gw183 (by decide) (by intro C h; cases h) (by decide) (fun _ => vp_cell_i _ _ _) (by decide) (fun _ _ => rfl) (fun _ => trivial)) nq_newa_le, List.forall_mem_cons.mpr ⟨np_S.mono (op := np_putf 2 1 (.array .int)) (np_s_putF hX dX2_init_17 hmn (C := RX2) (T := TX2) (N := 5) (ty0 := tyX2) rfl guX2 tyX2_ok nmX2 (by decide) gw166 rfl rfl rfl) nq_putf_le, List.forall_mem_cons.mpr ⟨np_s_aload_n hX dX2_init_20 rfl, List.forall_mem_cons.mpr ⟨np_s_bipush hX dX2_init_21 (by decide), List.forall_mem_cons.mpr ⟨np_S.mono (op := np_newa .int 14 (14, .inl fun _ => 0) 4 56) (np_s_newa hX dX2_init_23 rfl gw183 (by decide) (by intro C h; cases h) (by decide) (fun _ => vp_cell_i _ _ _) (by decide) (fun _ _ => rfl) (fun _ => trivial)) nq_newa_le, List.forall_mem_cons.mpr ⟨np_S.mono (op := np_putf 2 2 (.array .int)) (np_s_putF hX dX2_init_25 hmn (C := RX2) (T := TX2) (N := 5) (ty0 := tyX2) rfl guX2 tyX2_ok nmX2 (by decide) gw167 rfl rfl rfl) nq_putf_le, List.forall_mem_cons.mpr ⟨np_s_aload_n hX dX2_init_28 rfl, List.forall_mem_cons.mpr ⟨np_s_bipush hX dX2_init_29 (by decide), List.forall_mem_cons.mpr ⟨np_S.mono (op := np_newa .int 14 (14, .inl fun _ => 0) 4 56) (np_s_newa hX dX2_init_31 rfl gw183 (by decide) (by intro C h; cases h) (by decide) (fun _ => vp_cell_i _ _ _) (by decide) (fun _ _ => rfl) (fun _ => trivial)) nq_newa_le, List.forall_mem_cons.mpr ⟨np_S.mono (op := np_putf 2 3 (.array .int)) (np_s_putF hX dX2_init_33 hmn (C := RX2) (T := TX2) (N := 5) (ty0 := tyX2) rfl guX2 tyX2_ok nmX2 (by decide) gw168 rfl rfl rfl) nq_putf_le, List.forall_mem_cons.mpr ⟨np_S.mono (op := np_ret X.2.2.1) (np_s_ret hX dX2_init_36) (nq_ret_le hR), fun _ h => nomatch h⟩⟩⟩⟩⟩⟩⟩⟩⟩⟩⟩⟩⟩⟩⟩⟩⟩⟩⟩
abbrev sp_X2_init : np_Sp := nq_in is_X2_init none 4 56 60
theorem C_X2_init : np_C yX2_init cX2_init 1 none 1 20 4 56 sp_X2_init := nq_inC 60 (by decide) (fun X Rt hX hmn hR => so_X2_init hX hmn hR)
theorem dX7_init_0 : decode cX7_init 0 = .ok (.aload_n 0, 1) := by decide +kernel
theorem dX7_init_1 : decode cX7_init 1 = .ok (.invokespecial 3, 3) := by decide +kernel
theorem dX7_init_4 : decode cX7_init 4 = .ok (.aload_n 0, 1) := by decide +kernel
theorem dX7_init_5 : decode cX7_init 5 = .ok (.sipush 300, 3) := by decide +kernel
theorem dX7_init_8 : decode cX7_init 8 = .ok (.newarray .char, 2) := by decide +kernel
theorem dX7_init_10 : decode cX7_init 10 = .ok (.putfield 9, 3) := by decide +kernel
theorem dX7_init_13 : decode cX7_init 13 = .ok (.aload_n 0, 1) := by decide +kernel
theorem dX7_init_14 : decode cX7_init 14 = .ok (.iconst 1, 1) := by decide +kernel
theorem dX7_init_15 : decode cX7_init 15 = .ok (.putfield 15, 3) := by decide +kernel
theorem dX7_init_18 : decode cX7_init 18 = .ok (.return_, 1) := by decide +kernel
def is_X7_init (Rt : np_Rt) : List (Nat × np_Op) := [(0, np_ald 1 0), (1, np_oinit), (4, np_ald 1 0), (5, np_push 3 (.int 300)), (8, nq_newa .char 300 (300, .inl fun _ => 0) 1 300), (10, nq_putf 7 0 (.array .char)), (13, np_ald 1 0), (14, np_push 1 (.int 1)), (15, nq_putf 7 2 (.boolean)), (18, np_ret Rt)]
set_option maxRecDepth 20000 in
theorem so_X7_init {X : np_Ctx} {Rt : np_Rt} (hX : np_ok RX7 cX7_init 1 1 20 1 300 .return_ X) (hmn : np_mn X = "<init>") (hR : ∀ st w ce sl, Rt st w ce sl → X.2.2.1 st w ce sl) : ∀ q ∈ is_X7_init Rt, np_S X q.1 q.2 :=
  List.forall_mem_cons.mpr ⟨np_s_aload_n hX dX7_init_0 rfl, List.forall_mem_cons.mpr ⟨np_s_oinit hX dX7_init_1 gw273 gw157 gw158 (by decide) (by decide), List.forall_mem_cons.mpr ⟨np_s_aload_n hX dX7_init_4 rfl, List.forall_mem_cons.mpr ⟨np_s_sipush hX dX7_init_5 (by decide), List.forall_mem_cons.mpr ⟨np_S.mono (op := np_newa .char 300 (300, .inl fun _ => 0) 1 300) (np_s_newa hX dX7_init_8 rfl gw286 (by decide) (by intro C h; cases h) (by decide) (fun _ => vp_cell_i _ _ _) (by decide) (fun _ _ => rfl) (fun _ => trivial)) nq_newa_le, List.forall_mem_cons.mpr ⟨np_S.mono (op := np_putf 7 0 (.array .char)) (np_s_putF hX dX7_init_10 hmn (C := RX7) (T := TX7) (N := 3) (ty0 := tyX7) rfl guX7 tyX7_ok nmX7 (by decide) gw274 rfl rfl rfl) nq_putf_le, List.forall_mem_cons.mpr ⟨np_s_aload_n hX dX7_init_13 rfl, List.forall_mem_cons.mpr ⟨np_s_iconst hX dX7_init_14 (by decide), List.forall_mem_cons.mpr ⟨np_S.mono (op := np_putf 7 2 (.boolean)) (np_s_putf hX dX7_init_15 (C := RX7) (T := TX7) (N := 3) (ty0 := tyX7) rfl guX7 tyX7_ok nmX7 (by decide) gw277 rfl rfl) nq_putf_le, List.forall_mem_cons.mpr ⟨np_S.mono (op := np_ret X.2.2.1) (np_s_ret hX dX7_init_18) (nq_ret_le hR), fun _ h => nomatch h⟩⟩⟩⟩⟩⟩⟩⟩⟩⟩
abbrev sp_X7_init : np_Sp := nq_in is_X7_init none 1 300 60
theorem C_X7_init : np_C yX7_init cX7_init 1 none 1 20 1 300 sp_X7_init := nq_inC 60 (by decide) (fun X Rt hX hmn hR => so_X7_init hX hmn hR)
theorem dX0_init_0 : decode cX0_init 0 = .ok (.aload_n 0, 1) := by decide +kernel
theorem dX0_init_1 : decode cX0_init 1 = .ok (.invokespecial 3, 3) := by decide +kernel
theorem dX0_init_4 : decode cX0_init 4 = .ok (.aload_n 0, 1) := by decide +kernel
theorem dX0_init_5 : decode cX0_init 5 = .ok (.bipush 24, 2) := by decide +kernel
theorem dX0_init_7 : decode cX0_init 7 = .ok (.newarray .int, 2) := by decide +kernel
theorem dX0_init_9 : decode cX0_init 9 = .ok (.putfield 9, 3) := by decide +kernel
theorem dX0_init_12 : decode cX0_init 12 = .ok (.aload_n 0, 1) := by decide +kernel
theorem dX0_init_13 : decode cX0_init 13 = .ok (.bipush 24, 2) := by decide +kernel
theorem dX0_init_15 : decode cX0_init 15 = .ok (.newarray .int, 2) := by decide +kernel
theorem dX0_init_17 : decode cX0_init 17 = .ok (.putfield 15, 3) := by decide +kernel
theorem dX0_init_20 : decode cX0_init 20 = .ok (.aload_n 0, 1) := by decide +kernel
theorem dX0_init_21 : decode cX0_init 21 = .ok (.aconst_null, 1) := by decide +kernel
theorem dX0_init_22 : decode cX0_init 22 = .ok (.putfield 18, 3) := by decide +kernel
theorem dX0_init_25 : decode cX0_init 25 = .ok (.return_, 1) := by decide +kernel
def is_X0_init (Rt : np_Rt) : List (Nat × np_Op) := [(0, np_ald 1 0), (1, np_oinit), (4, np_ald 1 0), (5, np_push 2 (.int 24)), (7, nq_newa .int 24 (24, .inl fun _ => 0) 2 48), (9, nq_putf 0 0 (.array .int)), (12, np_ald 1 0), (13, np_push 2 (.int 24)), (15, nq_newa .int 24 (24, .inl fun _ => 0) 2 48), (17, nq_putf 0 1 (.array .int)), (20, np_ald 1 0), (21, np_push 1 .null), (22, nq_putf 0 2 (.object "NotationPress$Table")), (25, np_ret Rt)]
set_option maxRecDepth 20000 in
theorem so_X0_init {X : np_Ctx} {Rt : np_Rt} (hX : np_ok RX0 cX0_init 1 1 20 2 48 .return_ X) (hmn : np_mn X = "<init>") (hR : ∀ st w ce sl, Rt st w ce sl → X.2.2.1 st w ce sl) : ∀ q ∈ is_X0_init Rt, np_S X q.1 q.2 :=
  List.forall_mem_cons.mpr ⟨np_s_aload_n hX dX0_init_0 rfl, List.forall_mem_cons.mpr ⟨np_s_oinit hX dX0_init_1 gw458 gw157 gw158 (by decide) (by decide), List.forall_mem_cons.mpr ⟨np_s_aload_n hX dX0_init_4 rfl, List.forall_mem_cons.mpr ⟨np_s_bipush hX dX0_init_5 (by decide), List.forall_mem_cons.mpr ⟨np_S.mono (op := np_newa .int 24 (24, .inl fun _ => 0) 2 48) (np_s_newa hX dX0_init_7 rfl gw183 (by decide) (by intro C h; cases h) (by decide) (fun _ => vp_cell_i _ _ _) (by decide) (fun _ _ => rfl) (fun _ => trivial)) nq_newa_le, List.forall_mem_cons.mpr ⟨np_S.mono (op := np_putf 0 0 (.array .int)) (np_s_putF hX dX0_init_9 hmn (C := RX0) (T := TX0) (N := 6) (ty0 := tyX0) rfl guX0 tyX0_ok nmX0 (by decide) gw459 rfl rfl rfl) nq_putf_le, List.forall_mem_cons.mpr ⟨np_s_aload_n hX dX0_init_12 rfl, List.forall_mem_cons.mpr ⟨np_s_bipush hX dX0_init_13 (by decide), List.forall_mem_cons.mpr ⟨np_S.mono (op := np_newa .int 24 (24, .inl fun _ => 0) 2 48) (np_s_newa hX dX0_init_15 rfl gw183 (by decide) (by intro C h; cases h) (by decide) (fun _ => vp_cell_i _ _ _) (by decide) (fun _ _ => rfl) (fun _ => trivial)) nq_newa_le, List.forall_mem_cons.mpr ⟨np_S.mono (op := np_putf 0 1 (.array .int)) (np_s_putF hX dX0_init_17 hmn (C := RX0) (T := TX0) (N := 6) (ty0 := tyX0) rfl guX0 tyX0_ok nmX0 (by decide) gw460 rfl rfl rfl) nq_putf_le, List.forall_mem_cons.mpr ⟨np_s_aload_n hX dX0_init_20 rfl, List.forall_mem_cons.mpr ⟨np_s_null hX dX0_init_21, List.forall_mem_cons.mpr ⟨np_S.mono (op := np_putf 0 2 (.object "NotationPress$Table")) (np_s_putf hX dX0_init_22 (C := RX0) (T := TX0) (N := 6) (ty0 := tyX0) rfl guX0 tyX0_ok nmX0 (by decide) gw461 rfl rfl) nq_putf_le, List.forall_mem_cons.mpr ⟨np_S.mono (op := np_ret X.2.2.1) (np_s_ret hX dX0_init_25) (nq_ret_le hR), fun _ h => nomatch h⟩⟩⟩⟩⟩⟩⟩⟩⟩⟩⟩⟩⟩⟩
abbrev sp_X0_init : np_Sp := nq_in is_X0_init none 2 48 60
theorem C_X0_init : np_C yX0_init cX0_init 1 none 1 20 2 48 sp_X0_init := nq_inC 60 (by decide) (fun X Rt hX hmn hR => so_X0_init hX hmn hR)
theorem dX9_init_0 : decode cX9_init 0 = .ok (.aload_n 0, 1) := by decide +kernel
theorem dX9_init_1 : decode cX9_init 1 = .ok (.invokespecial 3, 3) := by decide +kernel
theorem dX9_init_4 : decode cX9_init 4 = .ok (.aload_n 0, 1) := by decide +kernel
theorem dX9_init_5 : decode cX9_init 5 = .ok (.bipush 60, 2) := by decide +kernel
theorem dX9_init_7 : decode cX9_init 7 = .ok (.newarray .int, 2) := by decide +kernel
theorem dX9_init_9 : decode cX9_init 9 = .ok (.putfield 9, 3) := by decide +kernel
theorem dX9_init_12 : decode cX9_init 12 = .ok (.aload_n 0, 1) := by decide +kernel
theorem dX9_init_13 : decode cX9_init 13 = .ok (.bipush 60, 2) := by decide +kernel
theorem dX9_init_15 : decode cX9_init 15 = .ok (.newarray .int, 2) := by decide +kernel
theorem dX9_init_17 : decode cX9_init 17 = .ok (.putfield 15, 3) := by decide +kernel
theorem dX9_init_20 : decode cX9_init 20 = .ok (.aload_n 0, 1) := by decide +kernel
theorem dX9_init_21 : decode cX9_init 21 = .ok (.bipush 8, 2) := by decide +kernel
theorem dX9_init_23 : decode cX9_init 23 = .ok (.newarray .int, 2) := by decide +kernel
theorem dX9_init_25 : decode cX9_init 25 = .ok (.putfield 18, 3) := by decide +kernel
theorem dX9_init_28 : decode cX9_init 28 = .ok (.aload_n 0, 1) := by decide +kernel
theorem dX9_init_29 : decode cX9_init 29 = .ok (.bipush 60, 2) := by decide +kernel
theorem dX9_init_31 : decode cX9_init 31 = .ok (.newarray .int, 2) := by decide +kernel
theorem dX9_init_33 : decode cX9_init 33 = .ok (.putfield 21, 3) := by decide +kernel
theorem dX9_init_36 : decode cX9_init 36 = .ok (.aload_n 0, 1) := by decide +kernel
theorem dX9_init_37 : decode cX9_init 37 = .ok (.bipush 60, 2) := by decide +kernel
theorem dX9_init_39 : decode cX9_init 39 = .ok (.newarray .int, 2) := by decide +kernel
theorem dX9_init_41 : decode cX9_init 41 = .ok (.putfield 24, 3) := by decide +kernel
theorem dX9_init_44 : decode cX9_init 44 = .ok (.aload_n 0, 1) := by decide +kernel
theorem dX9_init_45 : decode cX9_init 45 = .ok (.bipush 60, 2) := by decide +kernel
theorem dX9_init_47 : decode cX9_init 47 = .ok (.newarray .int, 2) := by decide +kernel
theorem dX9_init_49 : decode cX9_init 49 = .ok (.putfield 27, 3) := by decide +kernel
theorem dX9_init_52 : decode cX9_init 52 = .ok (.return_, 1) := by decide +kernel
def is_X9_init (Rt : np_Rt) : List (Nat × np_Op) := [(0, np_ald 1 0), (1, np_oinit), (4, np_ald 1 0), (5, np_push 2 (.int 60)), (7, nq_newa .int 60 (60, .inl fun _ => 0) 6 308), (9, nq_putf 9 0 (.array .int)), (12, np_ald 1 0), (13, np_push 2 (.int 60)), (15, nq_newa .int 60 (60, .inl fun _ => 0) 6 308), (17, nq_putf 9 1 (.array .int)), (20, np_ald 1 0), (21, np_push 2 (.int 8)), (23, nq_newa .int 8 (8, .inl fun _ => 0) 6 308), (25, nq_putf 9 2 (.array .int)), (28, np_ald 1 0), (29, np_push 2 (.int 60)), (31, nq_newa .int 60 (60, .inl fun _ => 0) 6 308), (33, nq_putf 9 3 (.array .int)), (36, np_ald 1 0), (37, np_push 2 (.int 60)), (39, nq_newa .int 60 (60, .inl fun _ => 0) 6 308), (41, nq_putf 9 4 (.array .int)), (44, np_ald 1 0), (45, np_push 2 (.int 60)), (47, nq_newa .int 60 (60, .inl fun _ => 0) 6 308), (49, nq_putf 9 5 (.array .int)), (52, np_ret Rt)]
set_option maxRecDepth 20000 in
theorem so_X9_init {X : np_Ctx} {Rt : np_Rt} (hX : np_ok RX9 cX9_init 1 1 20 6 308 .return_ X) (hmn : np_mn X = "<init>") (hR : ∀ st w ce sl, Rt st w ce sl → X.2.2.1 st w ce sl) : ∀ q ∈ is_X9_init Rt, np_S X q.1 q.2 :=
  List.forall_mem_cons.mpr ⟨np_s_aload_n hX dX9_init_0 rfl, List.forall_mem_cons.mpr ⟨np_s_oinit hX dX9_init_1 gw482 gw157 gw158 (by decide) (by decide), List.forall_mem_cons.mpr ⟨np_s_aload_n hX dX9_init_4 rfl, List.forall_mem_cons.mpr ⟨np_s_bipush hX dX9_init_5 (by decide), List.forall_mem_cons.mpr ⟨np_S.mono (op := np_newa .int 60 (60, .inl fun _ => 0) 6 308) (np_s_newa hX dX9_init_7 rfl gw183 (by decide) (by intro C h; cases h) (by decide) (fun _ => vp_cell_i _ _ _) (by decide) (fun _ _ => rfl) (fun _ => trivial)) nq_newa_le, List.forall_mem_cons.mpr ⟨np_S.mono (op := np_putf 9 0 (.array .int)) (np_s_putF hX dX9_init_9 hmn (C := RX9) (T := TX9) (N := 7) (ty0 := tyX9) rfl guX9 tyX9_ok nmX9 (by decide) gw483 rfl rfl rfl) nq_putf_le, List.forall_mem_cons.mpr ⟨np_s_aload_n hX dX9_init_12 rfl, List.forall_mem_cons.mpr ⟨np_s_bipush hX dX9_init_13 (by decide), List.forall_mem_cons.mpr ⟨np_S.mono (op := np_newa .int 60 (60, .inl fun _ => 0) 6 308) (np_s_newa hX dX9_init_15 rfl gw183 (by decide) (by intro C h; cases h) (by decide) (fun _ => vp_cell_i _ _ _) (by decide) (fun _ _ => rfl) (fun _ => trivial)) nq_newa_le, List.forall_mem_cons.mpr ⟨np_S.mono (op := np_putf 9 1 (.array .int)) (np_s_putF hX dX9_init_17 hmn (C := RX9) (T := TX9) (N := 7) (ty0 := tyX9) rfl guX9 tyX9_ok nmX9 (by decide) gw484 rfl rfl rfl) nq_putf_le, List.forall_mem_cons.mpr ⟨np_s_aload_n hX dX9_init_20 rfl, List.forall_mem_cons.mpr ⟨np_s_bipush hX dX9_init_21 (by decide), List.forall_mem_cons.mpr ⟨np_S.mono (op := np_newa .int 8 (8, .inl fun _ => 0) 6 308) (np_s_newa hX dX9_init_23 rfl gw183 (by decide) (by intro C h; cases h) (by decide) (fun _ => vp_cell_i _ _ _) (by decide) (fun _ _ => rfl) (fun _ => trivial)) nq_newa_le, List.forall_mem_cons.mpr ⟨np_S.mono (op := np_putf 9 2 (.array .int)) (np_s_putF hX dX9_init_25 hmn (C := RX9) (T := TX9) (N := 7) (ty0 := tyX9) rfl guX9 tyX9_ok nmX9 (by decide) gw485 rfl rfl rfl) nq_putf_le, List.forall_mem_cons.mpr ⟨np_s_aload_n hX dX9_init_28 rfl, List.forall_mem_cons.mpr ⟨np_s_bipush hX dX9_init_29 (by decide), List.forall_mem_cons.mpr ⟨np_S.mono (op := np_newa .int 60 (60, .inl fun _ => 0) 6 308) (np_s_newa hX dX9_init_31 rfl gw183 (by decide) (by intro C h; cases h) (by decide) (fun _ => vp_cell_i _ _ _) (by decide) (fun _ _ => rfl) (fun _ => trivial)) nq_newa_le, List.forall_mem_cons.mpr ⟨np_S.mono (op := np_putf 9 3 (.array .int)) (np_s_putF hX dX9_init_33 hmn (C := RX9) (T := TX9) (N := 7) (ty0 := tyX9) rfl guX9 tyX9_ok nmX9 (by decide) gw486 rfl rfl rfl) nq_putf_le, List.forall_mem_cons.mpr ⟨np_s_aload_n hX dX9_init_36 rfl, List.forall_mem_cons.mpr ⟨np_s_bipush hX dX9_init_37 (by decide), List.forall_mem_cons.mpr ⟨np_S.mono (op := np_newa .int 60 (60, .inl fun _ => 0) 6 308) (np_s_newa hX dX9_init_39 rfl gw183 (by decide) (by intro C h; cases h) (by decide) (fun _ => vp_cell_i _ _ _) (by decide) (fun _ _ => rfl) (fun _ => trivial)) nq_newa_le, List.forall_mem_cons.mpr ⟨np_S.mono (op := np_putf 9 4 (.array .int)) (np_s_putF hX dX9_init_41 hmn (C := RX9) (T := TX9) (N := 7) (ty0 := tyX9) rfl guX9 tyX9_ok nmX9 (by decide) gw487 rfl rfl rfl) nq_putf_le, List.forall_mem_cons.mpr ⟨np_s_aload_n hX dX9_init_44 rfl, List.forall_mem_cons.mpr ⟨np_s_bipush hX dX9_init_45 (by decide), List.forall_mem_cons.mpr ⟨np_S.mono (op := np_newa .int 60 (60, .inl fun _ => 0) 6 308) (np_s_newa hX dX9_init_47 rfl gw183 (by decide) (by intro C h; cases h) (by decide) (fun _ => vp_cell_i _ _ _) (by decide) (fun _ _ => rfl) (fun _ => trivial)) nq_newa_le, List.forall_mem_cons.mpr ⟨np_S.mono (op := np_putf 9 5 (.array .int)) (np_s_putF hX dX9_init_49 hmn (C := RX9) (T := TX9) (N := 7) (ty0 := tyX9) rfl guX9 tyX9_ok nmX9 (by decide) gw488 rfl rfl rfl) nq_putf_le, List.forall_mem_cons.mpr ⟨np_S.mono (op := np_ret X.2.2.1) (np_s_ret hX dX9_init_52) (nq_ret_le hR), fun _ h => nomatch h⟩⟩⟩⟩⟩⟩⟩⟩⟩⟩⟩⟩⟩⟩⟩⟩⟩⟩⟩⟩⟩⟩⟩⟩⟩⟩⟩
abbrev sp_X9_init : np_Sp := nq_in is_X9_init none 6 308 60
theorem C_X9_init : np_C yX9_init cX9_init 1 none 1 20 6 308 sp_X9_init := nq_inC 60 (by decide) (fun X Rt hX hmn hR => so_X9_init hX hmn hR)
theorem dX10_init_0 : decode cX10_init 0 = .ok (.aload_n 0, 1) := by decide +kernel
theorem dX10_init_1 : decode cX10_init 1 = .ok (.invokespecial 3, 3) := by decide +kernel
theorem dX10_init_4 : decode cX10_init 4 = .ok (.aload_n 0, 1) := by decide +kernel
theorem dX10_init_5 : decode cX10_init 5 = .ok (.bipush 8, 2) := by decide +kernel
theorem dX10_init_7 : decode cX10_init 7 = .ok (.newarray .int, 2) := by decide +kernel
theorem dX10_init_9 : decode cX10_init 9 = .ok (.putfield 9, 3) := by decide +kernel
theorem dX10_init_12 : decode cX10_init 12 = .ok (.aload_n 0, 1) := by decide +kernel
theorem dX10_init_13 : decode cX10_init 13 = .ok (.bipush 8, 2) := by decide +kernel
theorem dX10_init_15 : decode cX10_init 15 = .ok (.newarray .int, 2) := by decide +kernel
theorem dX10_init_17 : decode cX10_init 17 = .ok (.putfield 15, 3) := by decide +kernel
theorem dX10_init_20 : decode cX10_init 20 = .ok (.aload_n 0, 1) := by decide +kernel
theorem dX10_init_21 : decode cX10_init 21 = .ok (.bipush 8, 2) := by decide +kernel
theorem dX10_init_23 : decode cX10_init 23 = .ok (.newarray .int, 2) := by decide +kernel
theorem dX10_init_25 : decode cX10_init 25 = .ok (.putfield 18, 3) := by decide +kernel
theorem dX10_init_28 : decode cX10_init 28 = .ok (.aload_n 0, 1) := by decide +kernel
theorem dX10_init_29 : decode cX10_init 29 = .ok (.getfield 9, 3) := by decide +kernel
theorem dX10_init_32 : decode cX10_init 32 = .ok (.iconst (-1), 1) := by decide +kernel
theorem dX10_init_33 : decode cX10_init 33 = .ok (.invokestatic 21, 3) := by decide +kernel
theorem dX10_init_36 : decode cX10_init 36 = .ok (.return_, 1) := by decide +kernel
def is_X10_init (Rt : np_Rt) : List (Nat × np_Op) := [(0, np_ald 1 0), (1, np_oinit), (4, np_ald 1 0), (5, np_push 2 (.int 8)), (7, nq_newa .int 8 (8, .inl fun _ => 0) 3 24), (9, nq_putf 10 0 (.array .int)), (12, np_ald 1 0), (13, np_push 2 (.int 8)), (15, nq_newa .int 8 (8, .inl fun _ => 0) 3 24), (17, nq_putf 10 1 (.array .int)), (20, np_ald 1 0), (21, np_push 2 (.int 8)), (23, nq_newa .int 8 (8, .inl fun _ => 0) 3 24), (25, nq_putf 10 2 (.array .int)), (28, np_ald 1 0), (29, nq_getf 10 0), (32, np_push 1 (.int (-1))), (33, nq_call 2 sp_X11_fillAll 3 0 0 3 24), (36, np_ret Rt)]
set_option maxRecDepth 20000 in
theorem so_X10_init {X : np_Ctx} {Rt : np_Rt} (hX : np_ok RX10 cX10_init 1 1 22 3 24 .return_ X) (hmn : np_mn X = "<init>") (hR : ∀ st w ce sl, Rt st w ce sl → X.2.2.1 st w ce sl) : ∀ q ∈ is_X10_init Rt, np_S X q.1 q.2 :=
  List.forall_mem_cons.mpr ⟨np_s_aload_n hX dX10_init_0 rfl, List.forall_mem_cons.mpr ⟨np_s_oinit hX dX10_init_1 gw354 gw157 gw158 (by decide) (by decide), List.forall_mem_cons.mpr ⟨np_s_aload_n hX dX10_init_4 rfl, List.forall_mem_cons.mpr ⟨np_s_bipush hX dX10_init_5 (by decide), List.forall_mem_cons.mpr ⟨np_S.mono (op := np_newa .int 8 (8, .inl fun _ => 0) 3 24) (np_s_newa hX dX10_init_7 rfl gw183 (by decide) (by intro C h; cases h) (by decide) (fun _ => vp_cell_i _ _ _) (by decide) (fun _ _ => rfl) (fun _ => trivial)) nq_newa_le, List.forall_mem_cons.mpr ⟨np_S.mono (op := np_putf 10 0 (.array .int)) (np_s_putF hX dX10_init_9 hmn (C := RX10) (T := TX10) (N := 3) (ty0 := tyX10) rfl guX10 tyX10_ok nmX10 (by decide) gw356 rfl rfl rfl) nq_putf_le, List.forall_mem_cons.mpr ⟨np_s_aload_n hX dX10_init_12 rfl, List.forall_mem_cons.mpr ⟨np_s_bipush hX dX10_init_13 (by decide), List.forall_mem_cons.mpr ⟨np_S.mono (op := np_newa .int 8 (8, .inl fun _ => 0) 3 24) (np_s_newa hX dX10_init_15 rfl gw183 (by decide) (by intro C h; cases h) (by decide) (fun _ => vp_cell_i _ _ _) (by decide) (fun _ _ => rfl) (fun _ => trivial)) nq_newa_le, List.forall_mem_cons.mpr ⟨np_S.mono (op := np_putf 10 1 (.array .int)) (np_s_putF hX dX10_init_17 hmn (C := RX10) (T := TX10) (N := 3) (ty0 := tyX10) rfl guX10 tyX10_ok nmX10 (by decide) gw358 rfl rfl rfl) nq_putf_le, List.forall_mem_cons.mpr ⟨np_s_aload_n hX dX10_init_20 rfl, List.forall_mem_cons.mpr ⟨np_s_bipush hX dX10_init_21 (by decide), List.forall_mem_cons.mpr ⟨np_S.mono (op := np_newa .int 8 (8, .inl fun _ => 0) 3 24) (np_s_newa hX dX10_init_23 rfl gw183 (by decide) (by intro C h; cases h) (by decide) (fun _ => vp_cell_i _ _ _) (by decide) (fun _ _ => rfl) (fun _ => trivial)) nq_newa_le, List.forall_mem_cons.mpr ⟨np_S.mono (op := np_putf 10 2 (.array .int)) (np_s_putF hX dX10_init_25 hmn (C := RX10) (T := TX10) (N := 3) (ty0 := tyX10) rfl guX10 tyX10_ok nmX10 (by decide) gw360 rfl rfl rfl) nq_putf_le, List.forall_mem_cons.mpr ⟨np_s_aload_n hX dX10_init_28 rfl, List.forall_mem_cons.mpr ⟨np_S.mono (op := np_getf 10 0) (np_s_getf hX dX10_init_29 (C := RX10) (T := TX10) (N := 3) rfl guX10 (by decide) gw356) nq_getf_le, List.forall_mem_cons.mpr ⟨np_s_iconst hX dX10_init_32 (by decide), List.forall_mem_cons.mpr ⟨np_S.mono (op := np_call 2 sp_X11_fillAll 3 0 0 3 24) (np_s_callSN hX C_X11_fillAll dX10_init_33 gw192 gw130 gw355 gw191 ⟨by decide, by decide, by decide⟩ (by decide) (by decide)) nq_call_le, List.forall_mem_cons.mpr ⟨np_S.mono (op := np_ret X.2.2.1) (np_s_ret hX dX10_init_36) (nq_ret_le hR), fun _ h => nomatch h⟩⟩⟩⟩⟩⟩⟩⟩⟩⟩⟩⟩⟩⟩⟩⟩⟩⟩⟩
abbrev sp_X10_init : np_Sp := nq_in is_X10_init none 3 24 60
theorem C_X10_init : np_C yX10_init cX10_init 1 none 1 22 3 24 sp_X10_init := nq_inC 60 (by decide) (fun X Rt hX hmn hR => so_X10_init hX hmn hR)
theorem dX6_init_0 : decode cX6_init 0 = .ok (.aload_n 0, 1) := by decide +kernel
theorem dX6_init_1 : decode cX6_init 1 = .ok (.invokespecial 3, 3) := by decide +kernel
theorem dX6_init_4 : decode cX6_init 4 = .ok (.aload_n 0, 1) := by decide +kernel
theorem dX6_init_5 : decode cX6_init 5 = .ok (.sipush 576, 3) := by decide +kernel
theorem dX6_init_8 : decode cX6_init 8 = .ok (.newarray .int, 2) := by decide +kernel
theorem dX6_init_10 : decode cX6_init 10 = .ok (.putfield 9, 3) := by decide +kernel
theorem dX6_init_13 : decode cX6_init 13 = .ok (.aload_n 0, 1) := by decide +kernel
theorem dX6_init_14 : decode cX6_init 14 = .ok (.sipush 300, 3) := by decide +kernel
theorem dX6_init_17 : decode cX6_init 17 = .ok (.newarray .int, 2) := by decide +kernel
theorem dX6_init_19 : decode cX6_init 19 = .ok (.putfield 15, 3) := by decide +kernel
theorem dX6_init_22 : decode cX6_init 22 = .ok (.aload_n 0, 1) := by decide +kernel
theorem dX6_init_23 : decode cX6_init 23 = .ok (.sipush 256, 3) := by decide +kernel
theorem dX6_init_26 : decode cX6_init 26 = .ok (.newarray .int, 2) := by decide +kernel
theorem dX6_init_28 : decode cX6_init 28 = .ok (.putfield 18, 3) := by decide +kernel
theorem dX6_init_31 : decode cX6_init 31 = .ok (.aload_n 0, 1) := by decide +kernel
theorem dX6_init_32 : decode cX6_init 32 = .ok (.sipush 256, 3) := by decide +kernel
theorem dX6_init_35 : decode cX6_init 35 = .ok (.newarray .int, 2) := by decide +kernel
theorem dX6_init_37 : decode cX6_init 37 = .ok (.putfield 21, 3) := by decide +kernel
theorem dX6_init_40 : decode cX6_init 40 = .ok (.aload_n 0, 1) := by decide +kernel
theorem dX6_init_41 : decode cX6_init 41 = .ok (.sipush 192, 3) := by decide +kernel
theorem dX6_init_44 : decode cX6_init 44 = .ok (.newarray .int, 2) := by decide +kernel
theorem dX6_init_46 : decode cX6_init 46 = .ok (.putfield 24, 3) := by decide +kernel
theorem dX6_init_49 : decode cX6_init 49 = .ok (.aload_n 0, 1) := by decide +kernel
theorem dX6_init_50 : decode cX6_init 50 = .ok (.getfield 18, 3) := by decide +kernel
theorem dX6_init_53 : decode cX6_init 53 = .ok (.iconst (-1), 1) := by decide +kernel
theorem dX6_init_54 : decode cX6_init 54 = .ok (.invokestatic 27, 3) := by decide +kernel
theorem dX6_init_57 : decode cX6_init 57 = .ok (.aload_n 0, 1) := by decide +kernel
theorem dX6_init_58 : decode cX6_init 58 = .ok (.getfield 21, 3) := by decide +kernel
theorem dX6_init_61 : decode cX6_init 61 = .ok (.iconst (-1), 1) := by decide +kernel
theorem dX6_init_62 : decode cX6_init 62 = .ok (.invokestatic 27, 3) := by decide +kernel
theorem dX6_init_65 : decode cX6_init 65 = .ok (.return_, 1) := by decide +kernel
def is_X6_init (Rt : np_Rt) : List (Nat × np_Op) := [(0, np_ald 1 0), (1, np_oinit), (4, np_ald 1 0), (5, np_push 3 (.int 576)), (8, nq_newa .int 576 (576, .inl fun _ => 0) 5 1580), (10, nq_putf 6 0 (.array .int)), (13, np_ald 1 0), (14, np_push 3 (.int 300)), (17, nq_newa .int 300 (300, .inl fun _ => 0) 5 1580), (19, nq_putf 6 1 (.array .int)), (22, np_ald 1 0), (23, np_push 3 (.int 256)), (26, nq_newa .int 256 (256, .inl fun _ => 0) 5 1580), (28, nq_putf 6 2 (.array .int)), (31, np_ald 1 0), (32, np_push 3 (.int 256)), (35, nq_newa .int 256 (256, .inl fun _ => 0) 5 1580), (37, nq_putf 6 3 (.array .int)), (40, np_ald 1 0), (41, np_push 3 (.int 192)), (44, nq_newa .int 192 (192, .inl fun _ => 0) 5 1580), (46, nq_putf 6 4 (.array .int)), (49, np_ald 1 0), (50, nq_getf 6 2), (53, np_push 1 (.int (-1))), (54, nq_call 2 sp_X11_fillAll 3 0 0 5 1580), (57, np_ald 1 0), (58, nq_getf 6 3), (61, np_push 1 (.int (-1))), (62, nq_call 2 sp_X11_fillAll 3 0 0 5 1580), (65, np_ret Rt)]
set_option maxRecDepth 20000 in
theorem so_X6_init {X : np_Ctx} {Rt : np_Rt} (hX : np_ok RX6 cX6_init 1 1 22 5 1580 .return_ X) (hmn : np_mn X = "<init>") (hR : ∀ st w ce sl, Rt st w ce sl → X.2.2.1 st w ce sl) : ∀ q ∈ is_X6_init Rt, np_S X q.1 q.2 :=
  List.forall_mem_cons.mpr ⟨np_s_aload_n hX dX6_init_0 rfl, List.forall_mem_cons.mpr ⟨np_s_oinit hX dX6_init_1 gw408 gw157 gw158 (by decide) (by decide), List.forall_mem_cons.mpr ⟨np_s_aload_n hX dX6_init_4 rfl, List.forall_mem_cons.mpr ⟨np_s_sipush hX dX6_init_5 (by decide), List.forall_mem_cons.mpr ⟨np_S.mono (op := np_newa .int 576 (576, .inl fun _ => 0) 5 1580) (np_s_newa hX dX6_init_8 rfl gw183 (by decide) (by intro C h; cases h) (by decide) (fun _ => vp_cell_i _ _ _) (by decide) (fun _ _ => rfl) (fun _ => trivial)) nq_newa_le, List.forall_mem_cons.mpr ⟨np_S.mono (op := np_putf 6 0 (.array .int)) (np_s_putF hX dX6_init_10 hmn (C := RX6) (T := TX6) (N := 12) (ty0 := tyX6) rfl guX6 tyX6_ok nmX6 (by decide) gw410 rfl rfl rfl) nq_putf_le, List.forall_mem_cons.mpr ⟨np_s_aload_n hX dX6_init_13 rfl, List.forall_mem_cons.mpr ⟨np_s_sipush hX dX6_init_14 (by decide), List.forall_mem_cons.mpr ⟨np_S.mono (op := np_newa .int 300 (300, .inl fun _ => 0) 5 1580) (np_s_newa hX dX6_init_17 rfl gw183 (by decide) (by intro C h; cases h) (by decide) (fun _ => vp_cell_i _ _ _) (by decide) (fun _ _ => rfl) (fun _ => trivial)) nq_newa_le, List.forall_mem_cons.mpr ⟨np_S.mono (op := np_putf 6 1 (.array .int)) (np_s_putF hX dX6_init_19 hmn (C := RX6) (T := TX6) (N := 12) (ty0 := tyX6) rfl guX6 tyX6_ok nmX6 (by decide) gw412 rfl rfl rfl) nq_putf_le, List.forall_mem_cons.mpr ⟨np_s_aload_n hX dX6_init_22 rfl, List.forall_mem_cons.mpr ⟨np_s_sipush hX dX6_init_23 (by decide), List.forall_mem_cons.mpr ⟨np_S.mono (op := np_newa .int 256 (256, .inl fun _ => 0) 5 1580) (np_s_newa hX dX6_init_26 rfl gw183 (by decide) (by intro C h; cases h) (by decide) (fun _ => vp_cell_i _ _ _) (by decide) (fun _ _ => rfl) (fun _ => trivial)) nq_newa_le, List.forall_mem_cons.mpr ⟨np_S.mono (op := np_putf 6 2 (.array .int)) (np_s_putF hX dX6_init_28 hmn (C := RX6) (T := TX6) (N := 12) (ty0 := tyX6) rfl guX6 tyX6_ok nmX6 (by decide) gw414 rfl rfl rfl) nq_putf_le, List.forall_mem_cons.mpr ⟨np_s_aload_n hX dX6_init_31 rfl, List.forall_mem_cons.mpr ⟨np_s_sipush hX dX6_init_32 (by decide), List.forall_mem_cons.mpr ⟨np_S.mono (op := np_newa .int 256 (256, .inl fun _ => 0) 5 1580) (np_s_newa hX dX6_init_35 rfl gw183 (by decide) (by intro C h; cases h) (by decide) (fun _ => vp_cell_i _ _ _) (by decide) (fun _ _ => rfl) (fun _ => trivial)) nq_newa_le, List.forall_mem_cons.mpr ⟨np_S.mono (op := np_putf 6 3 (.array .int)) (np_s_putF hX dX6_init_37 hmn (C := RX6) (T := TX6) (N := 12) (ty0 := tyX6) rfl guX6 tyX6_ok nmX6 (by decide) gw415 rfl rfl rfl) nq_putf_le, List.forall_mem_cons.mpr ⟨np_s_aload_n hX dX6_init_40 rfl, List.forall_mem_cons.mpr ⟨np_s_sipush hX dX6_init_41 (by decide), List.forall_mem_cons.mpr ⟨np_S.mono (op := np_newa .int 192 (192, .inl fun _ => 0) 5 1580) (np_s_newa hX dX6_init_44 rfl gw183 (by decide) (by intro C h; cases h) (by decide) (fun _ => vp_cell_i _ _ _) (by decide) (fun _ _ => rfl) (fun _ => trivial)) nq_newa_le, List.forall_mem_cons.mpr ⟨np_S.mono (op := np_putf 6 4 (.array .int)) (np_s_putF hX dX6_init_46 hmn (C := RX6) (T := TX6) (N := 12) (ty0 := tyX6) rfl guX6 tyX6_ok nmX6 (by decide) gw416 rfl rfl rfl) nq_putf_le, List.forall_mem_cons.mpr ⟨np_s_aload_n hX dX6_init_49 rfl, List.forall_mem_cons.mpr ⟨np_S.mono (op := np_getf 6 2) (np_s_getf hX dX6_init_50 (C := RX6) (T := TX6) (N := 12) rfl guX6 (by decide) gw414) nq_getf_le, List.forall_mem_cons.mpr ⟨np_s_iconst hX dX6_init_53 (by decide), List.forall_mem_cons.mpr ⟨np_S.mono (op := np_call 2 sp_X11_fillAll 3 0 0 5 1580) (np_s_callSN hX C_X11_fillAll dX6_init_54 gw192 gw130 gw409 gw191 ⟨by decide, by decide, by decide⟩ (by decide) (by decide)) nq_call_le, List.forall_mem_cons.mpr ⟨np_s_aload_n hX dX6_init_57 rfl, List.forall_mem_cons.mpr ⟨np_S.mono (op := np_getf 6 3) (np_s_getf hX dX6_init_58 (C := RX6) (T := TX6) (N := 12) rfl guX6 (by decide) gw415) nq_getf_le, List.forall_mem_cons.mpr ⟨np_s_iconst hX dX6_init_61 (by decide), List.forall_mem_cons.mpr ⟨np_S.mono (op := np_call 2 sp_X11_fillAll 3 0 0 5 1580) (np_s_callSN hX C_X11_fillAll dX6_init_62 gw192 gw130 gw409 gw191 ⟨by decide, by decide, by decide⟩ (by decide) (by decide)) nq_call_le, List.forall_mem_cons.mpr ⟨np_S.mono (op := np_ret X.2.2.1) (np_s_ret hX dX6_init_65) (nq_ret_le hR), fun _ h => nomatch h⟩⟩⟩⟩⟩⟩⟩⟩⟩⟩⟩⟩⟩⟩⟩⟩⟩⟩⟩⟩⟩⟩⟩⟩⟩⟩⟩⟩⟩⟩⟩
abbrev sp_X6_init : np_Sp := nq_in is_X6_init none 5 1580 80
theorem C_X6_init : np_C yX6_init cX6_init 1 none 1 22 5 1580 sp_X6_init := nq_inC 80 (by decide) (fun X Rt hX hmn hR => so_X6_init hX hmn hR)
theorem dX1_init_0 : decode cX1_init 0 = .ok (.aload_n 0, 1) := by decide +kernel
theorem dX1_init_1 : decode cX1_init 1 = .ok (.invokespecial 3, 3) := by decide +kernel
theorem dX1_init_4 : decode cX1_init 4 = .ok (.aload_n 0, 1) := by decide +kernel
theorem dX1_init_5 : decode cX1_init 5 = .ok (.new 9, 3) := by decide +kernel
theorem dX1_init_8 : decode cX1_init 8 = .ok (.dup, 1) := by decide +kernel
theorem dX1_init_9 : decode cX1_init 9 = .ok (.invokespecial 11, 3) := by decide +kernel
theorem dX1_init_12 : decode cX1_init 12 = .ok (.putfield 12, 3) := by decide +kernel
theorem dX1_init_15 : decode cX1_init 15 = .ok (.aload_n 0, 1) := by decide +kernel
theorem dX1_init_16 : decode cX1_init 16 = .ok (.bipush 8, 2) := by decide +kernel
theorem dX1_init_18 : decode cX1_init 18 = .ok (.newarray .int, 2) := by decide +kernel
theorem dX1_init_20 : decode cX1_init 20 = .ok (.putfield 18, 3) := by decide +kernel
theorem dX1_init_23 : decode cX1_init 23 = .ok (.aload_n 0, 1) := by decide +kernel
theorem dX1_init_24 : decode cX1_init 24 = .ok (.bipush 8, 2) := by decide +kernel
theorem dX1_init_26 : decode cX1_init 26 = .ok (.newarray .int, 2) := by decide +kernel
theorem dX1_init_28 : decode cX1_init 28 = .ok (.putfield 22, 3) := by decide +kernel
theorem dX1_init_31 : decode cX1_init 31 = .ok (.aload_n 0, 1) := by decide +kernel
theorem dX1_init_32 : decode cX1_init 32 = .ok (.bipush 8, 2) := by decide +kernel
theorem dX1_init_34 : decode cX1_init 34 = .ok (.newarray .int, 2) := by decide +kernel
theorem dX1_init_36 : decode cX1_init 36 = .ok (.putfield 25, 3) := by decide +kernel
theorem dX1_init_39 : decode cX1_init 39 = .ok (.aload_n 0, 1) := by decide +kernel
theorem dX1_init_40 : decode cX1_init 40 = .ok (.bipush 8, 2) := by decide +kernel
theorem dX1_init_42 : decode cX1_init 42 = .ok (.newarray .int, 2) := by decide +kernel
theorem dX1_init_44 : decode cX1_init 44 = .ok (.putfield 28, 3) := by decide +kernel
theorem dX1_init_47 : decode cX1_init 47 = .ok (.aload_n 0, 1) := by decide +kernel
theorem dX1_init_48 : decode cX1_init 48 = .ok (.bipush 8, 2) := by decide +kernel
theorem dX1_init_50 : decode cX1_init 50 = .ok (.newarray .int, 2) := by decide +kernel
theorem dX1_init_52 : decode cX1_init 52 = .ok (.putfield 31, 3) := by decide +kernel
theorem dX1_init_55 : decode cX1_init 55 = .ok (.return_, 1) := by decide +kernel
def is_X1_init (Rt : np_Rt) : List (Nat × np_Op) := [(0, np_ald 1 0), (1, np_oinit), (4, np_ald 1 0), (5, nq_new 2 5 [.null, .null, .null, .null, .int 0] 10 101), (8, nq_dup), (9, nq_callI 1 sp_X2_init 1 4 56 10 101), (12, nq_putf 1 0 (.object "NotationPress$Items")), (15, np_ald 1 0), (16, np_push 2 (.int 8)), (18, nq_newa .int 8 (8, .inl fun _ => 0) 10 101), (20, nq_putf 1 1 (.array .int)), (23, np_ald 1 0), (24, np_push 2 (.int 8)), (26, nq_newa .int 8 (8, .inl fun _ => 0) 10 101), (28, nq_putf 1 2 (.array .int)), (31, np_ald 1 0), (32, np_push 2 (.int 8)), (34, nq_newa .int 8 (8, .inl fun _ => 0) 10 101), (36, nq_putf 1 3 (.array .int)), (39, np_ald 1 0), (40, np_push 2 (.int 8)), (42, nq_newa .int 8 (8, .inl fun _ => 0) 10 101), (44, nq_putf 1 4 (.array .int)), (47, np_ald 1 0), (48, np_push 2 (.int 8)), (50, nq_newa .int 8 (8, .inl fun _ => 0) 10 101), (52, nq_putf 1 5 (.array .int)), (55, np_ret Rt)]
set_option maxRecDepth 20000 in
theorem so_X1_init {X : np_Ctx} {Rt : np_Rt} (hX : np_ok RX1 cX1_init 1 2 40 10 101 .return_ X) (hmn : np_mn X = "<init>") (hR : ∀ st w ce sl, Rt st w ce sl → X.2.2.1 st w ce sl) : ∀ q ∈ is_X1_init Rt, np_S X q.1 q.2 :=
  List.forall_mem_cons.mpr ⟨np_s_aload_n hX dX1_init_0 rfl, List.forall_mem_cons.mpr ⟨np_s_oinit hX dX1_init_1 gw375 gw157 gw158 (by decide) (by decide), List.forall_mem_cons.mpr ⟨np_s_aload_n hX dX1_init_4 rfl, List.forall_mem_cons.mpr ⟨np_S.mono (op := np_new 2 5 [.null, .null, .null, .null, .int 0] 10 101) (np_s_new hX dX1_init_5 (C := RX2) (T := TX2) (ty0 := tyX2) rfl guX2 tyX2_ok gw376 gw160 gw131 ndX2 nfX2) nq_new_le, List.forall_mem_cons.mpr ⟨np_S.mono (op := np_dup) (np_s_dup hX dX1_init_8) nq_dup_le, List.forall_mem_cons.mpr ⟨np_S.mono (op := np_callI 1 sp_X2_init 1 4 56 10 101) (np_s_callIN hX C_X2_init dX1_init_9 rfl gw163 gw131 gw377 gw162 ⟨by decide, by decide, by decide⟩ (by decide) (by decide)) nq_callI_le, List.forall_mem_cons.mpr ⟨np_S.mono (op := np_putf 1 0 (.object "NotationPress$Items")) (np_s_putF hX dX1_init_12 hmn (C := RX1) (T := TX1) (N := 7) (ty0 := tyX1) rfl guX1 tyX1_ok nmX1 (by decide) gw378 rfl rfl rfl) nq_putf_le, List.forall_mem_cons.mpr ⟨np_s_aload_n hX dX1_init_15 rfl, List.forall_mem_cons.mpr ⟨np_s_bipush hX dX1_init_16 (by decide), List.forall_mem_cons.mpr ⟨np_S.mono (op := np_newa .int 8 (8, .inl fun _ => 0) 10 101) (np_s_newa hX dX1_init_18 rfl gw183 (by decide) (by intro C h; cases h) (by decide) (fun _ => vp_cell_i _ _ _) (by decide) (fun _ _ => rfl) (fun _ => trivial)) nq_newa_le, List.forall_mem_cons.mpr ⟨np_S.mono (op := np_putf 1 1 (.array .int)) (np_s_putF hX dX1_init_20 hmn (C := RX1) (T := TX1) (N := 7) (ty0 := tyX1) rfl guX1 tyX1_ok nmX1 (by decide) gw381 rfl rfl rfl) nq_putf_le, List.forall_mem_cons.mpr ⟨np_s_aload_n hX dX1_init_23 rfl, List.forall_mem_cons.mpr ⟨np_s_bipush hX dX1_init_24 (by decide), List.forall_mem_cons.mpr ⟨np_S.mono (op := np_newa .int 8 (8, .inl fun _ => 0) 10 101) (np_s_newa hX dX1_init_26 rfl gw183 (by decide) (by intro C h; cases h) (by decide) (fun _ => vp_cell_i _ _ _) (by decide) (fun _ _ => rfl) (fun _ => trivial)) nq_newa_le, List.forall_mem_cons.mpr ⟨np_S.mono (op := np_putf 1 2 (.array .int)) (np_s_putF hX dX1_init_28 hmn (C := RX1) (T := TX1) (N := 7) (ty0 := tyX1) rfl guX1 tyX1_ok nmX1 (by decide) gw382 rfl rfl rfl) nq_putf_le, List.forall_mem_cons.mpr ⟨np_s_aload_n hX dX1_init_31 rfl, List.forall_mem_cons.mpr ⟨np_s_bipush hX dX1_init_32 (by decide), List.forall_mem_cons.mpr ⟨np_S.mono (op := np_newa .int 8 (8, .inl fun _ => 0) 10 101) (np_s_newa hX dX1_init_34 rfl gw183 (by decide) (by intro C h; cases h) (by decide) (fun _ => vp_cell_i _ _ _) (by decide) (fun _ _ => rfl) (fun _ => trivial)) nq_newa_le, List.forall_mem_cons.mpr ⟨np_S.mono (op := np_putf 1 3 (.array .int)) (np_s_putF hX dX1_init_36 hmn (C := RX1) (T := TX1) (N := 7) (ty0 := tyX1) rfl guX1 tyX1_ok nmX1 (by decide) gw383 rfl rfl rfl) nq_putf_le, List.forall_mem_cons.mpr ⟨np_s_aload_n hX dX1_init_39 rfl, List.forall_mem_cons.mpr ⟨np_s_bipush hX dX1_init_40 (by decide), List.forall_mem_cons.mpr ⟨np_S.mono (op := np_newa .int 8 (8, .inl fun _ => 0) 10 101) (np_s_newa hX dX1_init_42 rfl gw183 (by decide) (by intro C h; cases h) (by decide) (fun _ => vp_cell_i _ _ _) (by decide) (fun _ _ => rfl) (fun _ => trivial)) nq_newa_le, List.forall_mem_cons.mpr ⟨np_S.mono (op := np_putf 1 4 (.array .int)) (np_s_putF hX dX1_init_44 hmn (C := RX1) (T := TX1) (N := 7) (ty0 := tyX1) rfl guX1 tyX1_ok nmX1 (by decide) gw384 rfl rfl rfl) nq_putf_le, List.forall_mem_cons.mpr ⟨np_s_aload_n hX dX1_init_47 rfl, List.forall_mem_cons.mpr ⟨np_s_bipush hX dX1_init_48 (by decide), List.forall_mem_cons.mpr ⟨np_S.mono (op := np_newa .int 8 (8, .inl fun _ => 0) 10 101) (np_s_newa hX dX1_init_50 rfl gw183 (by decide) (by intro C h; cases h) (by decide) (fun _ => vp_cell_i _ _ _) (by decide) (fun _ _ => rfl) (fun _ => trivial)) nq_newa_le, List.forall_mem_cons.mpr ⟨np_S.mono (op := np_putf 1 5 (.array .int)) (np_s_putF hX dX1_init_52 hmn (C := RX1) (T := TX1) (N := 7) (ty0 := tyX1) rfl guX1 tyX1_ok nmX1 (by decide) gw385 rfl rfl rfl) nq_putf_le, List.forall_mem_cons.mpr ⟨np_S.mono (op := np_ret X.2.2.1) (np_s_ret hX dX1_init_55) (nq_ret_le hR), fun _ h => nomatch h⟩⟩⟩⟩⟩⟩⟩⟩⟩⟩⟩⟩⟩⟩⟩⟩⟩⟩⟩⟩⟩⟩⟩⟩⟩⟩⟩⟩
abbrev sp_X1_init : np_Sp := nq_in is_X1_init none 10 101 80
theorem C_X1_init : np_C yX1_init cX1_init 1 none 2 40 10 101 sp_X1_init := nq_inC 80 (by decide) (fun X Rt hX hmn hR => so_X1_init hX hmn hR)
theorem dX3_init_0 : decode cX3_init 0 = .ok (.aload_n 0, 1) := by decide +kernel
theorem dX3_init_1 : decode cX3_init 1 = .ok (.invokespecial 3, 3) := by decide +kernel
theorem dX3_init_4 : decode cX3_init 4 = .ok (.aload_n 0, 1) := by decide +kernel
theorem dX3_init_5 : decode cX3_init 5 = .ok (.bipush 60, 2) := by decide +kernel
theorem dX3_init_7 : decode cX3_init 7 = .ok (.newarray .int, 2) := by decide +kernel
theorem dX3_init_9 : decode cX3_init 9 = .ok (.putfield 9, 3) := by decide +kernel
theorem dX3_init_12 : decode cX3_init 12 = .ok (.aload_n 0, 1) := by decide +kernel
theorem dX3_init_13 : decode cX3_init 13 = .ok (.bipush 8, 2) := by decide +kernel
theorem dX3_init_15 : decode cX3_init 15 = .ok (.newarray .int, 2) := by decide +kernel
theorem dX3_init_17 : decode cX3_init 17 = .ok (.putfield 15, 3) := by decide +kernel
theorem dX3_init_20 : decode cX3_init 20 = .ok (.aload_n 0, 1) := by decide +kernel
theorem dX3_init_21 : decode cX3_init 21 = .ok (.new 18, 3) := by decide +kernel
theorem dX3_init_24 : decode cX3_init 24 = .ok (.dup, 1) := by decide +kernel
theorem dX3_init_25 : decode cX3_init 25 = .ok (.invokespecial 20, 3) := by decide +kernel
theorem dX3_init_28 : decode cX3_init 28 = .ok (.putfield 21, 3) := by decide +kernel
theorem dX3_init_31 : decode cX3_init 31 = .ok (.return_, 1) := by decide +kernel
def is_X3_init (Rt : np_Rt) : List (Nat × np_Op) := [(0, np_ald 1 0), (1, np_oinit), (4, np_ald 1 0), (5, np_push 2 (.int 60)), (7, np_newa .int 60 (60, .inl fun _ => 0) 5 109), (9, np_putf 3 0 (.array .int)), (12, np_ald 1 0), (13, np_push 2 (.int 8)), (15, np_newa .int 8 (8, .inl fun _ => 0) 5 109), (17, np_putf 3 1 (.array .int)), (20, np_ald 1 0), (21, np_new 8 9 [.null, .null, .int 0, .int 0, .int 0, .int 0, .int 0, .int 0, .int 0] 5 109), (24, np_dup), (25, np_callI 1 sp_X8_init 1 2 32 5 109), (28, np_putf 3 2 (.object "NotationPress$Trace")), (31, np_ret Rt)]
set_option maxRecDepth 20000 in
theorem so_X3_init {X : np_Ctx} (hX : np_ok RX3 cX3_init 1 3 62 5 109 .return_ X) (hmn : np_mn X = "<init>") : ∀ q ∈ is_X3_init X.2.2.1, np_S X q.1 q.2 :=
  List.forall_mem_cons.mpr ⟨np_s_aload_n hX dX3_init_0 rfl, List.forall_mem_cons.mpr ⟨np_s_oinit hX dX3_init_1 gw202 gw157 gw158 (by decide) (by decide), List.forall_mem_cons.mpr ⟨np_s_aload_n hX dX3_init_4 rfl, List.forall_mem_cons.mpr ⟨np_s_bipush hX dX3_init_5 (by decide), List.forall_mem_cons.mpr ⟨np_s_newa hX dX3_init_7 rfl gw183 (by decide) (by intro C h; cases h) (by decide) (fun _ => vp_cell_i _ _ _) (by decide) (fun _ _ => rfl) (fun _ => trivial), List.forall_mem_cons.mpr ⟨np_s_putF hX dX3_init_9 hmn (C := RX3) (T := TX3) (N := 3) (ty0 := tyX3) rfl guX3 tyX3_ok nmX3 (by decide) gw247 rfl rfl rfl, List.forall_mem_cons.mpr ⟨np_s_aload_n hX dX3_init_12 rfl, List.forall_mem_cons.mpr ⟨np_s_bipush hX dX3_init_13 (by decide), List.forall_mem_cons.mpr ⟨np_s_newa hX dX3_init_15 rfl gw183 (by decide) (by intro C h; cases h) (by decide) (fun _ => vp_cell_i _ _ _) (by decide) (fun _ _ => rfl) (fun _ => trivial), List.forall_mem_cons.mpr ⟨np_s_putF hX dX3_init_17 hmn (C := RX3) (T := TX3) (N := 3) (ty0 := tyX3) rfl guX3 tyX3_ok nmX3 (by decide) gw248 rfl rfl rfl, List.forall_mem_cons.mpr ⟨np_s_aload_n hX dX3_init_20 rfl, List.forall_mem_cons.mpr ⟨np_s_new hX dX3_init_21 (C := RX8) (T := TX8) (ty0 := tyX8) rfl guX8 tyX8_ok gw203 gw204 gw133 ndX8 nfX8, List.forall_mem_cons.mpr ⟨np_s_dup hX dX3_init_24, List.forall_mem_cons.mpr ⟨np_s_callIN hX C_X8_init dX3_init_25 rfl gw207 gw133 gw205 gw206 ⟨by decide, by decide, by decide⟩ (by decide) (by decide), List.forall_mem_cons.mpr ⟨np_s_putF hX dX3_init_28 hmn (C := RX3) (T := TX3) (N := 3) (ty0 := tyX3) rfl guX3 tyX3_ok nmX3 (by decide) gw249 rfl rfl rfl, List.forall_mem_cons.mpr ⟨np_s_ret hX dX3_init_31, fun _ h => nomatch h⟩⟩⟩⟩⟩⟩⟩⟩⟩⟩⟩⟩⟩⟩⟩⟩
abbrev np_bX3_init : np_E := .inr (3, [.null, .null, .null])
set_option maxRecDepth 20000 in
theorem run_X3_init {X : np_Ctx} (hX : np_ok RX3 cX3_init 1 3 62 5 109 .return_ X) (hmn : np_mn X = "<init>") (hRt : X.2.2.1 = (fun st _ ce sl => ce ≤ 5 ∧ sl ≤ 109 ∧ st = [])) : np_G X 0 [(0, .ref 0)] [] (1, np_wl [(0, np_bX3_init)]) 0 0 := by
  refine np_finF (so_X3_init hX hmn) 60 ?_
  rw [hRt]
  repeat' ((conv => whnf); first | apply And.intro | (intro cc; first | exact absurd cc (by decide) | skip))
  all_goals (first | exact rfl | exact Nat.le_of_ble_eq_true rfl | exact True.intro)
set_option maxRecDepth 20000 in
theorem C_X3_init : np_C yX3_init cX3_init 1 none 3 62 5 109 (np_spF np_bX3_init) := by
  refine np_ofFrame (by decide) (fun _ _ _ => rfl) (fun n v hv => by
    simp only [List.mem_cons, List.not_mem_nil, or_false] at hv
    rcases hv with rfl | rfl | rfl <;> trivial) (by decide) ?_
  intro X hX hmn hRt
  exact run_X3_init hX hmn hRt
theorem dX4_init_0 : decode cX4_init 0 = .ok (.aload_n 0, 1) := by decide +kernel
theorem dX4_init_1 : decode cX4_init 1 = .ok (.invokespecial 3, 3) := by decide +kernel
theorem dX4_init_4 : decode cX4_init 4 = .ok (.aload_n 0, 1) := by decide +kernel
theorem dX4_init_5 : decode cX4_init 5 = .ok (.sipush 407, 3) := by decide +kernel
theorem dX4_init_8 : decode cX4_init 8 = .ok (.anewarray 9, 3) := by decide +kernel
theorem dX4_init_11 : decode cX4_init 11 = .ok (.putfield 11, 3) := by decide +kernel
theorem dX4_init_14 : decode cX4_init 14 = .ok (.aload_n 0, 1) := by decide +kernel
theorem dX4_init_15 : decode cX4_init 15 = .ok (.new 9, 3) := by decide +kernel
theorem dX4_init_18 : decode cX4_init 18 = .ok (.dup, 1) := by decide +kernel
theorem dX4_init_19 : decode cX4_init 19 = .ok (.invokespecial 17, 3) := by decide +kernel
theorem dX4_init_22 : decode cX4_init 22 = .ok (.putfield 18, 3) := by decide +kernel
theorem dX4_init_25 : decode cX4_init 25 = .ok (.aload_n 0, 1) := by decide +kernel
theorem dX4_init_26 : decode cX4_init 26 = .ok (.bipush 8, 2) := by decide +kernel
theorem dX4_init_28 : decode cX4_init 28 = .ok (.newarray .int, 2) := by decide +kernel
theorem dX4_init_30 : decode cX4_init 30 = .ok (.putfield 22, 3) := by decide +kernel
theorem dX4_init_33 : decode cX4_init 33 = .ok (.aload_n 0, 1) := by decide +kernel
theorem dX4_init_34 : decode cX4_init 34 = .ok (.bipush 6, 2) := by decide +kernel
theorem dX4_init_36 : decode cX4_init 36 = .ok (.newarray .int, 2) := by decide +kernel
theorem dX4_init_38 : decode cX4_init 38 = .ok (.putfield 26, 3) := by decide +kernel
theorem dX4_init_41 : decode cX4_init 41 = .ok (.aload_n 0, 1) := by decide +kernel
theorem dX4_init_42 : decode cX4_init 42 = .ok (.bipush 6, 2) := by decide +kernel
theorem dX4_init_44 : decode cX4_init 44 = .ok (.newarray .int, 2) := by decide +kernel
theorem dX4_init_46 : decode cX4_init 46 = .ok (.putfield 29, 3) := by decide +kernel
theorem dX4_init_49 : decode cX4_init 49 = .ok (.aload_n 0, 1) := by decide +kernel
theorem dX4_init_50 : decode cX4_init 50 = .ok (.new 32, 3) := by decide +kernel
theorem dX4_init_53 : decode cX4_init 53 = .ok (.dup, 1) := by decide +kernel
theorem dX4_init_54 : decode cX4_init 54 = .ok (.invokespecial 34, 3) := by decide +kernel
theorem dX4_init_57 : decode cX4_init 57 = .ok (.putfield 35, 3) := by decide +kernel
theorem dX4_init_60 : decode cX4_init 60 = .ok (.aload_n 0, 1) := by decide +kernel
theorem dX4_init_61 : decode cX4_init 61 = .ok (.new 39, 3) := by decide +kernel
theorem dX4_init_64 : decode cX4_init 64 = .ok (.dup, 1) := by decide +kernel
theorem dX4_init_65 : decode cX4_init 65 = .ok (.invokespecial 41, 3) := by decide +kernel
theorem dX4_init_68 : decode cX4_init 68 = .ok (.putfield 42, 3) := by decide +kernel
theorem dX4_init_71 : decode cX4_init 71 = .ok (.iconst 0, 1) := by decide +kernel
theorem dX4_init_72 : decode cX4_init 72 = .ok (.istore_n 1, 1) := by decide +kernel
theorem dX4_init_73 : decode cX4_init 73 = .ok (.iload_n 1, 1) := by decide +kernel
theorem dX4_init_74 : decode cX4_init 74 = .ok (.aload_n 0, 1) := by decide +kernel
theorem dX4_init_75 : decode cX4_init 75 = .ok (.getfield 11, 3) := by decide +kernel
theorem dX4_init_78 : decode cX4_init 78 = .ok (.arraylength, 1) := by decide +kernel
theorem dX4_init_79 : decode cX4_init 79 = .ok (.if_icmp .ge 22, 3) := by decide +kernel
theorem dX4_init_82 : decode cX4_init 82 = .ok (.aload_n 0, 1) := by decide +kernel
theorem dX4_init_83 : decode cX4_init 83 = .ok (.getfield 11, 3) := by decide +kernel
theorem dX4_init_86 : decode cX4_init 86 = .ok (.iload_n 1, 1) := by decide +kernel
theorem dX4_init_87 : decode cX4_init 87 = .ok (.new 9, 3) := by decide +kernel
theorem dX4_init_90 : decode cX4_init 90 = .ok (.dup, 1) := by decide +kernel
theorem dX4_init_91 : decode cX4_init 91 = .ok (.invokespecial 17, 3) := by decide +kernel
theorem dX4_init_94 : decode cX4_init 94 = .ok (.aastore, 1) := by decide +kernel
theorem dX4_init_95 : decode cX4_init 95 = .ok (.iinc 1 1, 3) := by decide +kernel
theorem dX4_init_98 : decode cX4_init 98 = .ok (.goto (-25), 3) := by decide +kernel
theorem dX4_init_101 : decode cX4_init 101 = .ok (.return_, 1) := by decide +kernel
def is_X4_init (Rt : np_Rt) : List (Nat × np_Op) := [(0, np_ald 1 0), (1, np_oinit), (4, np_ald 1 0), (5, np_push 3 (.int 407)), (8, np_anew "NotationPress$Trace" 407 1235 17519), (11, np_putf 4 0 (.array (.object "NotationPress$Trace"))), (14, np_ald 1 0), (15, np_new 8 9 [.null, .null, .int 0, .int 0, .int 0, .int 0, .int 0, .int 0, .int 0] 1235 17519), (18, np_dup), (19, np_callI 1 sp_X8_init 1 2 32 1235 17519), (22, np_putf 4 1 (.object "NotationPress$Trace")), (25, np_ald 1 0), (26, np_push 2 (.int 8)), (28, np_newa .int 8 (8, .inl fun _ => 0) 1235 17519), (30, np_putf 4 2 (.array .int)), (33, np_ald 1 0), (34, np_push 2 (.int 6)), (36, np_newa .int 6 (6, .inl fun _ => 0) 1235 17519), (38, np_putf 4 3 (.array .int)), (41, np_ald 1 0), (42, np_push 2 (.int 6)), (44, np_newa .int 6 (6, .inl fun _ => 0) 1235 17519), (46, np_putf 4 4 (.array .int)), (49, np_ald 1 0), (50, np_new 2 5 [.null, .null, .null, .null, .int 0] 1235 17519), (53, np_dup), (54, np_callI 1 sp_X2_init 1 4 56 1235 17519), (57, np_putf 4 5 (.object "NotationPress$Items")), (60, np_ald 1 0), (61, np_new 7 3 [.null, .int 0, .int 0] 1235 17519), (64, np_dup), (65, np_callI 1 sp_X7_init 1 1 300 1235 17519), (68, np_putf 4 6 (.object "NotationPress$Text")), (71, np_push 1 (.int 0)), (72, np_ist 1 1), (73, np_ild 1 1), (74, np_ald 1 0), (75, np_getf 4 0), (78, np_alen), (79, np_ic (fun x y => y ≤ x) 101), (82, np_ald 1 0), (83, np_getf 4 0), (86, np_ild 1 1), (87, np_new 8 9 [.null, .null, .int 0, .int 0, .int 0, .int 0, .int 0, .int 0, .int 0] 1235 17519), (90, np_dup), (91, np_callI 1 sp_X8_init 1 2 32 1235 17519), (94, np_aast 8 RX8), (95, np_iinc 1 1), (98, np_goto 73), (101, np_ret Rt)]
set_option maxRecDepth 20000 in
theorem so_X4_init {X : np_Ctx} (hX : np_ok RX4 cX4_init 2 3 62 1235 17519 .return_ X) (hmn : np_mn X = "<init>") : ∀ q ∈ is_X4_init X.2.2.1, np_S X q.1 q.2 :=
  List.forall_mem_cons.mpr ⟨np_s_aload_n hX dX4_init_0 rfl, List.forall_mem_cons.mpr ⟨np_s_oinit hX dX4_init_1 gw262 gw157 gw158 (by decide) (by decide), List.forall_mem_cons.mpr ⟨np_s_aload_n hX dX4_init_4 rfl, List.forall_mem_cons.mpr ⟨np_s_sipush hX dX4_init_5 (by decide), List.forall_mem_cons.mpr ⟨np_s_anew hX dX4_init_8 gw263 (by decide) (by decide) (by decide), List.forall_mem_cons.mpr ⟨np_s_putF hX dX4_init_11 hmn (C := RX4) (T := TX4) (N := 11) (ty0 := tyX4) rfl guX4 tyX4_ok nmX4 (by decide) gw287 rfl rfl rfl, List.forall_mem_cons.mpr ⟨np_s_aload_n hX dX4_init_14 rfl, List.forall_mem_cons.mpr ⟨np_s_new hX dX4_init_15 (C := RX8) (T := TX8) (ty0 := tyX8) rfl guX8 tyX8_ok gw263 gw204 gw133 ndX8 nfX8, List.forall_mem_cons.mpr ⟨np_s_dup hX dX4_init_18, List.forall_mem_cons.mpr ⟨np_s_callIN hX C_X8_init dX4_init_19 rfl gw207 gw133 gw265 gw206 ⟨by decide, by decide, by decide⟩ (by decide) (by decide), List.forall_mem_cons.mpr ⟨np_s_putF hX dX4_init_22 hmn (C := RX4) (T := TX4) (N := 11) (ty0 := tyX4) rfl guX4 tyX4_ok nmX4 (by decide) gw288 rfl rfl rfl, List.forall_mem_cons.mpr ⟨np_s_aload_n hX dX4_init_25 rfl, List.forall_mem_cons.mpr ⟨np_s_bipush hX dX4_init_26 (by decide), List.forall_mem_cons.mpr ⟨np_s_newa hX dX4_init_28 rfl gw183 (by decide) (by intro C h; cases h) (by decide) (fun _ => vp_cell_i _ _ _) (by decide) (fun _ _ => rfl) (fun _ => trivial), List.forall_mem_cons.mpr ⟨np_s_putF hX dX4_init_30 hmn (C := RX4) (T := TX4) (N := 11) (ty0 := tyX4) rfl guX4 tyX4_ok nmX4 (by decide) gw290 rfl rfl rfl, List.forall_mem_cons.mpr ⟨np_s_aload_n hX dX4_init_33 rfl, List.forall_mem_cons.mpr ⟨np_s_bipush hX dX4_init_34 (by decide), List.forall_mem_cons.mpr ⟨np_s_newa hX dX4_init_36 rfl gw183 (by decide) (by intro C h; cases h) (by decide) (fun _ => vp_cell_i _ _ _) (by decide) (fun _ _ => rfl) (fun _ => trivial), List.forall_mem_cons.mpr ⟨np_s_putF hX dX4_init_38 hmn (C := RX4) (T := TX4) (N := 11) (ty0 := tyX4) rfl guX4 tyX4_ok nmX4 (by decide) gw291 rfl rfl rfl, List.forall_mem_cons.mpr ⟨np_s_aload_n hX dX4_init_41 rfl, List.forall_mem_cons.mpr ⟨np_s_bipush hX dX4_init_42 (by decide), List.forall_mem_cons.mpr ⟨np_s_newa hX dX4_init_44 rfl gw183 (by decide) (by intro C h; cases h) (by decide) (fun _ => vp_cell_i _ _ _) (by decide) (fun _ _ => rfl) (fun _ => trivial), List.forall_mem_cons.mpr ⟨np_s_putF hX dX4_init_46 hmn (C := RX4) (T := TX4) (N := 11) (ty0 := tyX4) rfl guX4 tyX4_ok nmX4 (by decide) gw292 rfl rfl rfl, List.forall_mem_cons.mpr ⟨np_s_aload_n hX dX4_init_49 rfl, List.forall_mem_cons.mpr ⟨np_s_new hX dX4_init_50 (C := RX2) (T := TX2) (ty0 := tyX2) rfl guX2 tyX2_ok gw266 gw160 gw131 ndX2 nfX2, List.forall_mem_cons.mpr ⟨np_s_dup hX dX4_init_53, List.forall_mem_cons.mpr ⟨np_s_callIN hX C_X2_init dX4_init_54 rfl gw163 gw131 gw267 gw162 ⟨by decide, by decide, by decide⟩ (by decide) (by decide), List.forall_mem_cons.mpr ⟨np_s_putf hX dX4_init_57 (C := RX4) (T := TX4) (N := 11) (ty0 := tyX4) rfl guX4 tyX4_ok nmX4 (by decide) gw293 rfl rfl, List.forall_mem_cons.mpr ⟨np_s_aload_n hX dX4_init_60 rfl, List.forall_mem_cons.mpr ⟨np_s_new hX dX4_init_61 (C := RX7) (T := TX7) (ty0 := tyX7) rfl guX7 tyX7_ok gw268 gw269 gw135 ndX7 nfX7, List.forall_mem_cons.mpr ⟨np_s_dup hX dX4_init_64, List.forall_mem_cons.mpr ⟨np_s_callIN hX C_X7_init dX4_init_65 rfl gw272 gw135 gw270 gw271 ⟨by decide, by decide, by decide⟩ (by decide) (by decide), List.forall_mem_cons.mpr ⟨np_s_putf hX dX4_init_68 (C := RX4) (T := TX4) (N := 11) (ty0 := tyX4) rfl guX4 tyX4_ok nmX4 (by decide) gw294 rfl rfl, List.forall_mem_cons.mpr ⟨np_s_iconst hX dX4_init_71 (by decide), List.forall_mem_cons.mpr ⟨np_s_istore_n hX dX4_init_72 rfl (by decide), List.forall_mem_cons.mpr ⟨np_s_iload_n hX dX4_init_73 rfl, List.forall_mem_cons.mpr ⟨np_s_aload_n hX dX4_init_74 rfl, List.forall_mem_cons.mpr ⟨np_s_getf hX dX4_init_75 (C := RX4) (T := TX4) (N := 11) rfl guX4 (by decide) gw287, List.forall_mem_cons.mpr ⟨np_s_alen hX dX4_init_78, List.forall_mem_cons.mpr ⟨np_s_icmp_ge hX dX4_init_79 (by decide), List.forall_mem_cons.mpr ⟨np_s_aload_n hX dX4_init_82 rfl, List.forall_mem_cons.mpr ⟨np_s_getf hX dX4_init_83 (C := RX4) (T := TX4) (N := 11) rfl guX4 (by decide) gw287, List.forall_mem_cons.mpr ⟨np_s_iload_n hX dX4_init_86 rfl, List.forall_mem_cons.mpr ⟨np_s_new hX dX4_init_87 (C := RX8) (T := TX8) (ty0 := tyX8) rfl guX8 tyX8_ok gw263 gw204 gw133 ndX8 nfX8, List.forall_mem_cons.mpr ⟨np_s_dup hX dX4_init_90, List.forall_mem_cons.mpr ⟨np_s_callIN hX C_X8_init dX4_init_91 rfl gw207 gw133 gw265 gw206 ⟨by decide, by decide, by decide⟩ (by decide) (by decide), List.forall_mem_cons.mpr ⟨np_s_aast hX (r0 := (RX8, TX8, 9)) rfl dX4_init_94, List.forall_mem_cons.mpr ⟨np_s_iinc hX dX4_init_95 (by decide), List.forall_mem_cons.mpr ⟨np_s_goto hX dX4_init_98 (by decide), List.forall_mem_cons.mpr ⟨np_s_ret hX dX4_init_101, fun _ h => nomatch h⟩⟩⟩⟩⟩⟩⟩⟩⟩⟩⟩⟩⟩⟩⟩⟩⟩⟩⟩⟩⟩⟩⟩⟩⟩⟩⟩⟩⟩⟩⟩⟩⟩⟩⟩⟩⟩⟩⟩⟩⟩⟩⟩⟩⟩⟩⟩⟩⟩⟩
abbrev np_bX4_init : np_E := .inr (4, [.null, .null, .null, .null, .null, .null, .null, .int 0, .int 0, .int 0, .int 0])
set_option maxRecDepth 20000 in

theorem loop_X4_init {X : np_Ctx} (hX : np_ok RX4 cX4_init 2 3 62 1235 17519 .return_ X) (hmn : np_mn X = "<init>") (hRt : X.2.2.1 = (fun st _ ce sl => ce ≤ 1235 ∧ sl ≤ 17519 ∧ st = [])) :
    ∀ (d i N : Nat) (u : Nat → Option np_E) (F : Nat → Option Nat) (fs : List Value), i + d = 407 → 2 ≤ N → u 0 = some (.inr (4, fs)) → fs[0]? = some (.ref 1) → u 1 = some (.inl (.object "NotationPress$Trace", 407, .inr (.inr (.inr (.inr F))))) → np_G X 73 [(1, .int (nI i)), (0, .ref 0)] [] (N, u) (14 + 3 * i) (832 + 41 * i) := by
  intro d
  induction d with
  | zero =>
    intro i N u F fs hi hN h0 hf h1
    refine np_fin (so_X4_init hX hmn) 30 ?_
    rw [hRt]
    conv => whnf
    simp only [h0, hf]
    refine ⟨trivial, ?_⟩
    conv => whnf
    simp only [h1]
    refine And.intro (fun cc => ?_) (fun cc => absurd (show Int32.ofNat 407 ≤ nI i from nI_le (by omega) (by omega)) cc)
    refine ⟨?_, ?_, rfl⟩
    · show 14 + 3 * i ≤ _; omega
    · show 832 + 41 * i ≤ _; omega
  | succ d ih =>
    intro i N u F fs hi hN h0 hf h1
    have hin : vp_in (nI i) 407 := vp_in_nI (by omega) (by omega)
    have n0 : (0 : Nat) ≠ N := by omega
    have n1 : (1 : Nat) ≠ N := by omega
    refine np_sound (so_X4_init hX hmn) (heads := [73]) (Hd := fun pc L st w' ce sl => pc = 73 ∧ L = [(1, .int (nI i + 1)), (0, .ref 0)] ∧ st = [] ∧ ce = 14 + 3 * i + 1 + 2 ∧ sl = 832 + 41 * i + 9 + 32 ∧ w'.1 = N + 1 + 2 ∧ w'.2 0 = some (.inr (4, fs)) ∧ ∃ F', w'.2 1 = some (.inl (.object "NotationPress$Trace", 407, .inr (.inr (.inr (.inr F')))))) (fun pc L st w' ce sl h => ?_) 40 73 _ _ _ _ _ ?_
    · obtain ⟨n, u'⟩ := w'
      obtain ⟨rfl, rfl, rfl, rfl, rfl, g1, g2, F', g3⟩ := h
      have g1 : n = N + 1 + 2 := g1
      subst g1
      rw [nI_1]
      have e1 : 14 + 3 * i + 1 + 2 = 14 + 3 * (i + 1) := by omega
      have e2 : 832 + 41 * i + 9 + 32 = 832 + 41 * (i + 1) := by omega
      rw [e1, e2]
      exact ih (i + 1) _ u' F' fs (by omega) (by omega) g2 hf g3
    · conv => whnf
      simp only [h0, hf]
      refine ⟨trivial, ?_⟩
      conv => whnf
      simp only [h1]
      refine And.intro (fun cc => absurd cc (nI_ge (by omega) (by omega))) (fun cc => ?_)
      conv => whnf
      simp only [h0, hf]
      refine ⟨trivial, ?_⟩
      refine ⟨?_, ?_, ?_⟩
      · show 14 + 3 * i + 1 ≤ _; omega
      · show 832 + 41 * i + 9 ≤ _; omega
      rw [np_force_eq]
      refine ⟨rfl, trivial, Nat.le_of_ble_eq_true rfl, Nat.le_of_ble_eq_true rfl, Nat.le_of_ble_eq_true rfl, ?_, ?_, np_up_s _ _ _, Nat.lt_succ_self _, ?_⟩
      · show 14 + 3 * i + 1 + 2 ≤ _; omega
      · show 832 + 41 * i + 9 + 32 ≤ _; omega
      rw [np_force_eq]
      conv => whnf
      simp only [np_up_n _ _ n1, np_up_s, h1]
      refine ⟨rfl, trivial, hin, ?_⟩
      refine ⟨?_, ?_, ?_, ?_, ?_, ?_, ?_, ?_⟩
      · first | rfl | trivial
      · first | rfl | trivial
      · first | rfl | trivial
      · first | rfl | trivial
      · first | rfl | trivial
      · first | rfl | trivial
      · dsimp only
        rw [np_up_n _ _ (by decide), np_up_n _ _ n0, np_up_n _ _ n0]
        exact h0
      · refine ⟨va_up F (nI i).toNatClampNeg (some N), ?_⟩
        dsimp only
        rw [np_up_s]
        rfl
set_option maxRecDepth 20000 in

set_option maxHeartbeats 8000000 in
theorem run_X4_init {X : np_Ctx} (hX : np_ok RX4 cX4_init 2 3 62 1235 17519 .return_ X) (hmn : np_mn X = "<init>") (hRt : X.2.2.1 = (fun st _ ce sl => ce ≤ 1235 ∧ sl ≤ 17519 ∧ st = [])) : np_G X 0 [(0, .ref 0)] [] (1, np_wl [(0, np_bX4_init)]) 0 0 := by
  refine np_soundF (so_X4_init hX hmn) (heads := [73]) (Hd := fun pc L st w' ce sl => pc = 73 ∧ L = [(1, .int 0), (0, .ref 0)] ∧ st = [] ∧ ce = 14 ∧ sl = 832 ∧ w'.1 = 15 ∧ (∃ fs, w'.2 0 = some (.inr (4, fs)) ∧ fs[0]? = some (.ref 1)) ∧ ∃ F', w'.2 1 = some (.inl (.object "NotationPress$Trace", 407, .inr (.inr (.inr (.inr F')))))) (fun pc L st w' ce sl h => ?_) 80 0 _ _ _ _ _ ?_
  · obtain ⟨n, u'⟩ := w'
    obtain ⟨rfl, rfl, rfl, rfl, rfl, g1, ⟨fs, g2, g4⟩, F', g3⟩ := h
    have g1 : n = 15 := g1
    subst g1
    exact loop_X4_init hX hmn hRt 407 0 _ u' F' fs rfl (by decide) g2 g4 g3
  · repeat' ((conv => whnf); first | apply And.intro | (intro cc; first | exact absurd cc (by decide) | skip))
    all_goals (first | exact rfl | exact Nat.le_of_ble_eq_true rfl | exact True.intro | exact ⟨_, rfl, rfl⟩ | exact ⟨_, rfl⟩)

set_option maxRecDepth 20000 in
theorem C_X4_init : np_C yX4_init cX4_init 2 none 3 62 1235 17519 (np_spF np_bX4_init) := by
  refine np_ofFrame (by decide) (fun _ _ _ => rfl) (fun n v hv => by
    simp only [List.mem_cons, List.not_mem_nil, or_false] at hv
    rcases hv with rfl | rfl | rfl | rfl | rfl | rfl | rfl | rfl | rfl | rfl | rfl <;> trivial) (by decide) ?_
  intro X hX hmn hRt
  exact run_X4_init hX hmn hRt
theorem dX5_init_0 : decode cX5_init 0 = .ok (.aload_n 0, 1) := by decide +kernel
theorem dX5_init_1 : decode cX5_init 1 = .ok (.invokespecial 3, 3) := by decide +kernel
theorem dX5_init_4 : decode cX5_init 4 = .ok (.aload_n 0, 1) := by decide +kernel
theorem dX5_init_5 : decode cX5_init 5 = .ok (.bipush 26, 2) := by decide +kernel
theorem dX5_init_7 : decode cX5_init 7 = .ok (.anewarray 9, 3) := by decide +kernel
theorem dX5_init_10 : decode cX5_init 10 = .ok (.putfield 11, 3) := by decide +kernel
theorem dX5_init_13 : decode cX5_init 13 = .ok (.aload_n 0, 1) := by decide +kernel
theorem dX5_init_14 : decode cX5_init 14 = .ok (.bipush 26, 2) := by decide +kernel
theorem dX5_init_16 : decode cX5_init 16 = .ok (.newarray .int, 2) := by decide +kernel
theorem dX5_init_18 : decode cX5_init 18 = .ok (.putfield 17, 3) := by decide +kernel
theorem dX5_init_21 : decode cX5_init 21 = .ok (.aload_n 0, 1) := by decide +kernel
theorem dX5_init_22 : decode cX5_init 22 = .ok (.bipush 26, 2) := by decide +kernel
theorem dX5_init_24 : decode cX5_init 24 = .ok (.newarray .int, 2) := by decide +kernel
theorem dX5_init_26 : decode cX5_init 26 = .ok (.putfield 21, 3) := by decide +kernel
theorem dX5_init_29 : decode cX5_init 29 = .ok (.iconst 0, 1) := by decide +kernel
theorem dX5_init_30 : decode cX5_init 30 = .ok (.istore_n 1, 1) := by decide +kernel
theorem dX5_init_31 : decode cX5_init 31 = .ok (.iload_n 1, 1) := by decide +kernel
theorem dX5_init_32 : decode cX5_init 32 = .ok (.aload_n 0, 1) := by decide +kernel
theorem dX5_init_33 : decode cX5_init 33 = .ok (.getfield 11, 3) := by decide +kernel
theorem dX5_init_36 : decode cX5_init 36 = .ok (.arraylength, 1) := by decide +kernel
theorem dX5_init_37 : decode cX5_init 37 = .ok (.if_icmp .ge 22, 3) := by decide +kernel
theorem dX5_init_40 : decode cX5_init 40 = .ok (.aload_n 0, 1) := by decide +kernel
theorem dX5_init_41 : decode cX5_init 41 = .ok (.getfield 11, 3) := by decide +kernel
theorem dX5_init_44 : decode cX5_init 44 = .ok (.iload_n 1, 1) := by decide +kernel
theorem dX5_init_45 : decode cX5_init 45 = .ok (.new 9, 3) := by decide +kernel
theorem dX5_init_48 : decode cX5_init 48 = .ok (.dup, 1) := by decide +kernel
theorem dX5_init_49 : decode cX5_init 49 = .ok (.invokespecial 24, 3) := by decide +kernel
theorem dX5_init_52 : decode cX5_init 52 = .ok (.aastore, 1) := by decide +kernel
theorem dX5_init_53 : decode cX5_init 53 = .ok (.iinc 1 1, 3) := by decide +kernel
theorem dX5_init_56 : decode cX5_init 56 = .ok (.goto (-25), 3) := by decide +kernel
theorem dX5_init_59 : decode cX5_init 59 = .ok (.return_, 1) := by decide +kernel
def is_X5_init (Rt : np_Rt) : List (Nat × np_Op) := [(0, np_ald 1 0), (1, np_oinit), (4, np_ald 1 0), (5, np_push 2 (.int 26)), (7, np_anew "NotationPress$Trace" 26 81 1144), (10, np_putf 5 0 (.array (.object "NotationPress$Trace"))), (13, np_ald 1 0), (14, np_push 2 (.int 26)), (16, np_newa .int 26 (26, .inl fun _ => 0) 81 1144), (18, np_putf 5 1 (.array .int)), (21, np_ald 1 0), (22, np_push 2 (.int 26)), (24, np_newa .int 26 (26, .inl fun _ => 0) 81 1144), (26, np_putf 5 2 (.array .int)), (29, np_push 1 (.int 0)), (30, np_ist 1 1), (31, np_ild 1 1), (32, np_ald 1 0), (33, np_getf 5 0), (36, np_alen), (37, np_ic (fun x y => y ≤ x) 59), (40, np_ald 1 0), (41, np_getf 5 0), (44, np_ild 1 1), (45, np_new 8 9 [.null, .null, .int 0, .int 0, .int 0, .int 0, .int 0, .int 0, .int 0] 81 1144), (48, np_dup), (49, np_callI 1 sp_X8_init 1 2 32 81 1144), (52, np_aast 8 RX8), (53, np_iinc 1 1), (56, np_goto 31), (59, np_ret Rt)]
set_option maxRecDepth 20000 in
theorem so_X5_init {X : np_Ctx} (hX : np_ok RX5 cX5_init 2 3 62 81 1144 .return_ X) (hmn : np_mn X = "<init>") : ∀ q ∈ is_X5_init X.2.2.1, np_S X q.1 q.2 :=
  List.forall_mem_cons.mpr ⟨np_s_aload_n hX dX5_init_0 rfl, List.forall_mem_cons.mpr ⟨np_s_oinit hX dX5_init_1 gw328 gw157 gw158 (by decide) (by decide), List.forall_mem_cons.mpr ⟨np_s_aload_n hX dX5_init_4 rfl, List.forall_mem_cons.mpr ⟨np_s_bipush hX dX5_init_5 (by decide), List.forall_mem_cons.mpr ⟨np_s_anew hX dX5_init_7 gw329 (by decide) (by decide) (by decide), List.forall_mem_cons.mpr ⟨np_s_putF hX dX5_init_10 hmn (C := RX5) (T := TX5) (N := 5) (ty0 := tyX5) rfl guX5 tyX5_ok nmX5 (by decide) gw331 rfl rfl rfl, List.forall_mem_cons.mpr ⟨np_s_aload_n hX dX5_init_13 rfl, List.forall_mem_cons.mpr ⟨np_s_bipush hX dX5_init_14 (by decide), List.forall_mem_cons.mpr ⟨np_s_newa hX dX5_init_16 rfl gw183 (by decide) (by intro C h; cases h) (by decide) (fun _ => vp_cell_i _ _ _) (by decide) (fun _ _ => rfl) (fun _ => trivial), List.forall_mem_cons.mpr ⟨np_s_putF hX dX5_init_18 hmn (C := RX5) (T := TX5) (N := 5) (ty0 := tyX5) rfl guX5 tyX5_ok nmX5 (by decide) gw332 rfl rfl rfl, List.forall_mem_cons.mpr ⟨np_s_aload_n hX dX5_init_21 rfl, List.forall_mem_cons.mpr ⟨np_s_bipush hX dX5_init_22 (by decide), List.forall_mem_cons.mpr ⟨np_s_newa hX dX5_init_24 rfl gw183 (by decide) (by intro C h; cases h) (by decide) (fun _ => vp_cell_i _ _ _) (by decide) (fun _ _ => rfl) (fun _ => trivial), List.forall_mem_cons.mpr ⟨np_s_putF hX dX5_init_26 hmn (C := RX5) (T := TX5) (N := 5) (ty0 := tyX5) rfl guX5 tyX5_ok nmX5 (by decide) gw333 rfl rfl rfl, List.forall_mem_cons.mpr ⟨np_s_iconst hX dX5_init_29 (by decide), List.forall_mem_cons.mpr ⟨np_s_istore_n hX dX5_init_30 rfl (by decide), List.forall_mem_cons.mpr ⟨np_s_iload_n hX dX5_init_31 rfl, List.forall_mem_cons.mpr ⟨np_s_aload_n hX dX5_init_32 rfl, List.forall_mem_cons.mpr ⟨np_s_getf hX dX5_init_33 (C := RX5) (T := TX5) (N := 5) rfl guX5 (by decide) gw331, List.forall_mem_cons.mpr ⟨np_s_alen hX dX5_init_36, List.forall_mem_cons.mpr ⟨np_s_icmp_ge hX dX5_init_37 (by decide), List.forall_mem_cons.mpr ⟨np_s_aload_n hX dX5_init_40 rfl, List.forall_mem_cons.mpr ⟨np_s_getf hX dX5_init_41 (C := RX5) (T := TX5) (N := 5) rfl guX5 (by decide) gw331, List.forall_mem_cons.mpr ⟨np_s_iload_n hX dX5_init_44 rfl, List.forall_mem_cons.mpr ⟨np_s_new hX dX5_init_45 (C := RX8) (T := TX8) (ty0 := tyX8) rfl guX8 tyX8_ok gw329 gw204 gw133 ndX8 nfX8, List.forall_mem_cons.mpr ⟨np_s_dup hX dX5_init_48, List.forall_mem_cons.mpr ⟨np_s_callIN hX C_X8_init dX5_init_49 rfl gw207 gw133 gw330 gw206 ⟨by decide, by decide, by decide⟩ (by decide) (by decide), List.forall_mem_cons.mpr ⟨np_s_aast hX (r0 := (RX8, TX8, 9)) rfl dX5_init_52, List.forall_mem_cons.mpr ⟨np_s_iinc hX dX5_init_53 (by decide), List.forall_mem_cons.mpr ⟨np_s_goto hX dX5_init_56 (by decide), List.forall_mem_cons.mpr ⟨np_s_ret hX dX5_init_59, fun _ h => nomatch h⟩⟩⟩⟩⟩⟩⟩⟩⟩⟩⟩⟩⟩⟩⟩⟩⟩⟩⟩⟩⟩⟩⟩⟩⟩⟩⟩⟩⟩⟩⟩
abbrev np_bX5_init : np_E := .inr (5, [.null, .null, .null, .int 0, .int 0])
set_option maxRecDepth 20000 in

theorem loop_X5_init {X : np_Ctx} (hX : np_ok RX5 cX5_init 2 3 62 81 1144 .return_ X) (hmn : np_mn X = "<init>") (hRt : X.2.2.1 = (fun st _ ce sl => ce ≤ 81 ∧ sl ≤ 1144 ∧ st = [])) :
    ∀ (d i N : Nat) (u : Nat → Option np_E) (F : Nat → Option Nat) (fs : List Value), i + d = 26 → 2 ≤ N → u 0 = some (.inr (5, fs)) → fs[0]? = some (.ref 1) → u 1 = some (.inl (.object "NotationPress$Trace", 26, .inr (.inr (.inr (.inr F))))) → np_G X 31 [(1, .int (nI i)), (0, .ref 0)] [] (N, u) (3 + 3 * i) (78 + 41 * i) := by
  intro d
  induction d with
  | zero =>
    intro i N u F fs hi hN h0 hf h1
    refine np_fin (so_X5_init hX hmn) 30 ?_
    rw [hRt]
    conv => whnf
    simp only [h0, hf]
    refine ⟨trivial, ?_⟩
    conv => whnf
    simp only [h1]
    refine And.intro (fun cc => ?_) (fun cc => absurd (show Int32.ofNat 26 ≤ nI i from nI_le (by omega) (by omega)) cc)
    refine ⟨?_, ?_, rfl⟩
    · show 3 + 3 * i ≤ _; omega
    · show 78 + 41 * i ≤ _; omega
  | succ d ih =>
    intro i N u F fs hi hN h0 hf h1
    have hin : vp_in (nI i) 26 := vp_in_nI (by omega) (by omega)
    have n0 : (0 : Nat) ≠ N := by omega
    have n1 : (1 : Nat) ≠ N := by omega
    refine np_sound (so_X5_init hX hmn) (heads := [31]) (Hd := fun pc L st w' ce sl => pc = 31 ∧ L = [(1, .int (nI i + 1)), (0, .ref 0)] ∧ st = [] ∧ ce = 3 + 3 * i + 1 + 2 ∧ sl = 78 + 41 * i + 9 + 32 ∧ w'.1 = N + 1 + 2 ∧ w'.2 0 = some (.inr (5, fs)) ∧ ∃ F', w'.2 1 = some (.inl (.object "NotationPress$Trace", 26, .inr (.inr (.inr (.inr F')))))) (fun pc L st w' ce sl h => ?_) 40 31 _ _ _ _ _ ?_
    · obtain ⟨n, u'⟩ := w'
      obtain ⟨rfl, rfl, rfl, rfl, rfl, g1, g2, F', g3⟩ := h
      have g1 : n = N + 1 + 2 := g1
      subst g1
      rw [nI_1]
      have e1 : 3 + 3 * i + 1 + 2 = 3 + 3 * (i + 1) := by omega
      have e2 : 78 + 41 * i + 9 + 32 = 78 + 41 * (i + 1) := by omega
      rw [e1, e2]
      exact ih (i + 1) _ u' F' fs (by omega) (by omega) g2 hf g3
    · conv => whnf
      simp only [h0, hf]
      refine ⟨trivial, ?_⟩
      conv => whnf
      simp only [h1]
      refine And.intro (fun cc => absurd cc (nI_ge (by omega) (by omega))) (fun cc => ?_)
      conv => whnf
      simp only [h0, hf]
      refine ⟨trivial, ?_⟩
      refine ⟨?_, ?_, ?_⟩
      · show 3 + 3 * i + 1 ≤ _; omega
      · show 78 + 41 * i + 9 ≤ _; omega
      rw [np_force_eq]
      refine ⟨rfl, trivial, Nat.le_of_ble_eq_true rfl, Nat.le_of_ble_eq_true rfl, Nat.le_of_ble_eq_true rfl, ?_, ?_, np_up_s _ _ _, Nat.lt_succ_self _, ?_⟩
      · show 3 + 3 * i + 1 + 2 ≤ _; omega
      · show 78 + 41 * i + 9 + 32 ≤ _; omega
      rw [np_force_eq]
      conv => whnf
      simp only [np_up_n _ _ n1, np_up_s, h1]
      refine ⟨rfl, trivial, hin, ?_⟩
      refine ⟨?_, ?_, ?_, ?_, ?_, ?_, ?_, ?_⟩
      · first | rfl | trivial
      · first | rfl | trivial
      · first | rfl | trivial
      · first | rfl | trivial
      · first | rfl | trivial
      · first | rfl | trivial
      · dsimp only
        rw [np_up_n _ _ (by decide), np_up_n _ _ n0, np_up_n _ _ n0]
        exact h0
      · refine ⟨va_up F (nI i).toNatClampNeg (some N), ?_⟩
        dsimp only
        rw [np_up_s]
        rfl
set_option maxRecDepth 20000 in

set_option maxHeartbeats 8000000 in
theorem run_X5_init {X : np_Ctx} (hX : np_ok RX5 cX5_init 2 3 62 81 1144 .return_ X) (hmn : np_mn X = "<init>") (hRt : X.2.2.1 = (fun st _ ce sl => ce ≤ 81 ∧ sl ≤ 1144 ∧ st = [])) : np_G X 0 [(0, .ref 0)] [] (1, np_wl [(0, np_bX5_init)]) 0 0 := by
  refine np_soundF (so_X5_init hX hmn) (heads := [31]) (Hd := fun pc L st w' ce sl => pc = 31 ∧ L = [(1, .int 0), (0, .ref 0)] ∧ st = [] ∧ ce = 3 ∧ sl = 78 ∧ w'.1 = 4 ∧ (∃ fs, w'.2 0 = some (.inr (5, fs)) ∧ fs[0]? = some (.ref 1)) ∧ ∃ F', w'.2 1 = some (.inl (.object "NotationPress$Trace", 26, .inr (.inr (.inr (.inr F')))))) (fun pc L st w' ce sl h => ?_) 80 0 _ _ _ _ _ ?_
  · obtain ⟨n, u'⟩ := w'
    obtain ⟨rfl, rfl, rfl, rfl, rfl, g1, ⟨fs, g2, g4⟩, F', g3⟩ := h
    have g1 : n = 4 := g1
    subst g1
    exact loop_X5_init hX hmn hRt 26 0 _ u' F' fs rfl (by decide) g2 g4 g3
  · repeat' ((conv => whnf); first | apply And.intro | (intro cc; first | exact absurd cc (by decide) | skip))
    all_goals (first | exact rfl | exact Nat.le_of_ble_eq_true rfl | exact True.intro | exact ⟨_, rfl, rfl⟩ | exact ⟨_, rfl⟩)

set_option maxRecDepth 20000 in
theorem C_X5_init : np_C yX5_init cX5_init 2 none 3 62 81 1144 (np_spF np_bX5_init) := by
  refine np_ofFrame (by decide) (fun _ _ _ => rfl) (fun n v hv => by
    simp only [List.mem_cons, List.not_mem_nil, or_false] at hv
    rcases hv with rfl | rfl | rfl | rfl | rfl <;> trivial) (by decide) ?_
  intro X hX hmn hRt
  exact run_X5_init hX hmn hRt
