/-! the law: its codes -/
theorem dw18 : mvDec 255 18 = some (.iload_n 3, 1) := mvDec_of cd255 (by decide +kernel)
theorem dw19 : mvDec 255 19 = some (.aload_n 0, 1) := mvDec_of cd255 (by decide +kernel)
theorem dw20 : mvDec 255 20 = some (.arraylength, 1) := mvDec_of cd255 (by decide +kernel)
theorem dw21 : mvDec 255 21 = some (.iconst 5, 1) := mvDec_of cd255 (by decide +kernel)
theorem dw22 : mvDec 255 22 = some (.isub, 1) := mvDec_of cd255 (by decide +kernel)
theorem dw23 : mvDec 255 23 = some (.if_icmp .gt 1009, 3) := mvDec_of cd255 (by decide +kernel)
theorem dw26 : mvDec 255 26 = some (.aload_n 0, 1) := mvDec_of cd255 (by decide +kernel)
theorem dw27 : mvDec 255 27 = some (.iload_n 3, 1) := mvDec_of cd255 (by decide +kernel)
theorem dw28 : mvDec 255 28 = some (.iaload, 1) := mvDec_of cd255 (by decide +kernel)
theorem dw29 : mvDec 255 29 = some (.bipush 31, 2) := mvDec_of cd255 (by decide +kernel)
theorem dw31 : mvDec 255 31 = some (.iand, 1) := mvDec_of cd255 (by decide +kernel)
theorem dw32 : mvDec 255 32 = some (.tableswitch 994 0 30 #[140, 163, 176, 189, 202, 235, 268, 301, 324, 367, 420, 453, 486, 529, 562, 595, 618, 651, 684, 717, 740, 763, 776, 789, 832, 855, 878, 901, 934, 957, 980], 140) := mvDec_of cd255 (by decide +kernel)
theorem dw172 : mvDec 255 172 = some (.aload_n 1, 1) := mvDec_of cd255 (by decide +kernel)
theorem dw173 : mvDec 255 173 = some (.aload_n 0, 1) := mvDec_of cd255 (by decide +kernel)
theorem dw174 : mvDec 255 174 = some (.iload_n 3, 1) := mvDec_of cd255 (by decide +kernel)
theorem dw175 : mvDec 255 175 = some (.iconst 1, 1) := mvDec_of cd255 (by decide +kernel)
theorem dw176 : mvDec 255 176 = some (.iadd, 1) := mvDec_of cd255 (by decide +kernel)
theorem dw177 : mvDec 255 177 = some (.iaload, 1) := mvDec_of cd255 (by decide +kernel)
theorem dw178 : mvDec 255 178 = some (.invokevirtual 13, 3) := mvDec_of cd255 (by decide +kernel)
theorem dw181 : mvDec 255 181 = some (.aload_n 2, 1) := mvDec_of cd255 (by decide +kernel)
theorem dw182 : mvDec 255 182 = some (.aload_n 0, 1) := mvDec_of cd255 (by decide +kernel)
theorem dw183 : mvDec 255 183 = some (.iload_n 3, 1) := mvDec_of cd255 (by decide +kernel)
theorem dw184 : mvDec 255 184 = some (.iconst 1, 1) := mvDec_of cd255 (by decide +kernel)
theorem dw185 : mvDec 255 185 = some (.iadd, 1) := mvDec_of cd255 (by decide +kernel)
theorem dw186 : mvDec 255 186 = some (.iaload, 1) := mvDec_of cd255 (by decide +kernel)
theorem dw187 : mvDec 255 187 = some (.invokevirtual 17, 3) := mvDec_of cd255 (by decide +kernel)
theorem dw190 : mvDec 255 190 = some (.if_icmp .eq 836, 3) := mvDec_of cd255 (by decide +kernel)
theorem dw193 : mvDec 255 193 = some (.iconst 0, 1) := mvDec_of cd255 (by decide +kernel)
theorem dw194 : mvDec 255 194 = some (.ireturn, 1) := mvDec_of cd255 (by decide +kernel)
theorem dw195 : mvDec 255 195 = some (.aload_n 1, 1) := mvDec_of cd255 (by decide +kernel)
theorem dw196 : mvDec 255 196 = some (.invokevirtual 18, 3) := mvDec_of cd255 (by decide +kernel)
theorem dw199 : mvDec 255 199 = some (.aload_n 2, 1) := mvDec_of cd255 (by decide +kernel)
theorem dw200 : mvDec 255 200 = some (.invokevirtual 22, 3) := mvDec_of cd255 (by decide +kernel)
theorem dw203 : mvDec 255 203 = some (.if_icmp .eq 823, 3) := mvDec_of cd255 (by decide +kernel)
theorem dw206 : mvDec 255 206 = some (.iconst 0, 1) := mvDec_of cd255 (by decide +kernel)
theorem dw207 : mvDec 255 207 = some (.ireturn, 1) := mvDec_of cd255 (by decide +kernel)
theorem dw208 : mvDec 255 208 = some (.aload_n 1, 1) := mvDec_of cd255 (by decide +kernel)
theorem dw209 : mvDec 255 209 = some (.invokevirtual 23, 3) := mvDec_of cd255 (by decide +kernel)
theorem dw212 : mvDec 255 212 = some (.aload_n 2, 1) := mvDec_of cd255 (by decide +kernel)
theorem dw213 : mvDec 255 213 = some (.invokevirtual 26, 3) := mvDec_of cd255 (by decide +kernel)
theorem dw216 : mvDec 255 216 = some (.if_icmp .eq 810, 3) := mvDec_of cd255 (by decide +kernel)
theorem dw219 : mvDec 255 219 = some (.iconst 0, 1) := mvDec_of cd255 (by decide +kernel)
theorem dw220 : mvDec 255 220 = some (.ireturn, 1) := mvDec_of cd255 (by decide +kernel)
theorem dw221 : mvDec 255 221 = some (.aload_n 1, 1) := mvDec_of cd255 (by decide +kernel)
theorem dw222 : mvDec 255 222 = some (.invokevirtual 27, 3) := mvDec_of cd255 (by decide +kernel)
theorem dw225 : mvDec 255 225 = some (.aload_n 2, 1) := mvDec_of cd255 (by decide +kernel)
theorem dw226 : mvDec 255 226 = some (.invokevirtual 30, 3) := mvDec_of cd255 (by decide +kernel)
theorem dw229 : mvDec 255 229 = some (.if_icmp .eq 797, 3) := mvDec_of cd255 (by decide +kernel)
theorem dw232 : mvDec 255 232 = some (.iconst 0, 1) := mvDec_of cd255 (by decide +kernel)
theorem dw233 : mvDec 255 233 = some (.ireturn, 1) := mvDec_of cd255 (by decide +kernel)
theorem dw234 : mvDec 255 234 = some (.aload_n 1, 1) := mvDec_of cd255 (by decide +kernel)
theorem dw235 : mvDec 255 235 = some (.aload_n 0, 1) := mvDec_of cd255 (by decide +kernel)
theorem dw236 : mvDec 255 236 = some (.iload_n 3, 1) := mvDec_of cd255 (by decide +kernel)
theorem dw237 : mvDec 255 237 = some (.iconst 1, 1) := mvDec_of cd255 (by decide +kernel)
theorem dw238 : mvDec 255 238 = some (.iadd, 1) := mvDec_of cd255 (by decide +kernel)
theorem dw239 : mvDec 255 239 = some (.iaload, 1) := mvDec_of cd255 (by decide +kernel)
theorem dw240 : mvDec 255 240 = some (.aload_n 0, 1) := mvDec_of cd255 (by decide +kernel)
theorem dw241 : mvDec 255 241 = some (.iload_n 3, 1) := mvDec_of cd255 (by decide +kernel)
theorem dw242 : mvDec 255 242 = some (.iconst 2, 1) := mvDec_of cd255 (by decide +kernel)
theorem dw243 : mvDec 255 243 = some (.iadd, 1) := mvDec_of cd255 (by decide +kernel)
theorem dw244 : mvDec 255 244 = some (.iaload, 1) := mvDec_of cd255 (by decide +kernel)
theorem dw245 : mvDec 255 245 = some (.invokevirtual 31, 3) := mvDec_of cd255 (by decide +kernel)
theorem dw248 : mvDec 255 248 = some (.aload_n 2, 1) := mvDec_of cd255 (by decide +kernel)
theorem dw249 : mvDec 255 249 = some (.aload_n 0, 1) := mvDec_of cd255 (by decide +kernel)
theorem dw250 : mvDec 255 250 = some (.iload_n 3, 1) := mvDec_of cd255 (by decide +kernel)
theorem dw251 : mvDec 255 251 = some (.iconst 1, 1) := mvDec_of cd255 (by decide +kernel)
theorem dw252 : mvDec 255 252 = some (.iadd, 1) := mvDec_of cd255 (by decide +kernel)
theorem dw253 : mvDec 255 253 = some (.iaload, 1) := mvDec_of cd255 (by decide +kernel)
theorem dw254 : mvDec 255 254 = some (.aload_n 0, 1) := mvDec_of cd255 (by decide +kernel)
theorem dw255 : mvDec 255 255 = some (.iload_n 3, 1) := mvDec_of cd255 (by decide +kernel)
theorem dw256 : mvDec 255 256 = some (.iconst 2, 1) := mvDec_of cd255 (by decide +kernel)
theorem dw257 : mvDec 255 257 = some (.iadd, 1) := mvDec_of cd255 (by decide +kernel)
theorem dw258 : mvDec 255 258 = some (.iaload, 1) := mvDec_of cd255 (by decide +kernel)
theorem dw259 : mvDec 255 259 = some (.invokevirtual 35, 3) := mvDec_of cd255 (by decide +kernel)
theorem dw262 : mvDec 255 262 = some (.if_icmp .eq 764, 3) := mvDec_of cd255 (by decide +kernel)
theorem dw265 : mvDec 255 265 = some (.iconst 0, 1) := mvDec_of cd255 (by decide +kernel)
theorem dw266 : mvDec 255 266 = some (.ireturn, 1) := mvDec_of cd255 (by decide +kernel)
theorem dw267 : mvDec 255 267 = some (.aload_n 1, 1) := mvDec_of cd255 (by decide +kernel)
theorem dw268 : mvDec 255 268 = some (.aload_n 0, 1) := mvDec_of cd255 (by decide +kernel)
theorem dw269 : mvDec 255 269 = some (.iload_n 3, 1) := mvDec_of cd255 (by decide +kernel)
theorem dw270 : mvDec 255 270 = some (.iconst 1, 1) := mvDec_of cd255 (by decide +kernel)
theorem dw271 : mvDec 255 271 = some (.iadd, 1) := mvDec_of cd255 (by decide +kernel)
theorem dw272 : mvDec 255 272 = some (.iaload, 1) := mvDec_of cd255 (by decide +kernel)
theorem dw273 : mvDec 255 273 = some (.aload_n 0, 1) := mvDec_of cd255 (by decide +kernel)
theorem dw274 : mvDec 255 274 = some (.iload_n 3, 1) := mvDec_of cd255 (by decide +kernel)
theorem dw275 : mvDec 255 275 = some (.iconst 2, 1) := mvDec_of cd255 (by decide +kernel)
theorem dw276 : mvDec 255 276 = some (.iadd, 1) := mvDec_of cd255 (by decide +kernel)
theorem dw277 : mvDec 255 277 = some (.iaload, 1) := mvDec_of cd255 (by decide +kernel)
theorem dw278 : mvDec 255 278 = some (.invokevirtual 36, 3) := mvDec_of cd255 (by decide +kernel)
theorem dw281 : mvDec 255 281 = some (.aload_n 2, 1) := mvDec_of cd255 (by decide +kernel)
theorem dw282 : mvDec 255 282 = some (.aload_n 0, 1) := mvDec_of cd255 (by decide +kernel)
theorem dw283 : mvDec 255 283 = some (.iload_n 3, 1) := mvDec_of cd255 (by decide +kernel)
theorem dw284 : mvDec 255 284 = some (.iconst 1, 1) := mvDec_of cd255 (by decide +kernel)
theorem dw285 : mvDec 255 285 = some (.iadd, 1) := mvDec_of cd255 (by decide +kernel)
theorem dw286 : mvDec 255 286 = some (.iaload, 1) := mvDec_of cd255 (by decide +kernel)
theorem dw287 : mvDec 255 287 = some (.aload_n 0, 1) := mvDec_of cd255 (by decide +kernel)
theorem dw288 : mvDec 255 288 = some (.iload_n 3, 1) := mvDec_of cd255 (by decide +kernel)
theorem dw289 : mvDec 255 289 = some (.iconst 2, 1) := mvDec_of cd255 (by decide +kernel)
theorem dw290 : mvDec 255 290 = some (.iadd, 1) := mvDec_of cd255 (by decide +kernel)
theorem dw291 : mvDec 255 291 = some (.iaload, 1) := mvDec_of cd255 (by decide +kernel)
theorem dw292 : mvDec 255 292 = some (.invokevirtual 39, 3) := mvDec_of cd255 (by decide +kernel)
theorem dw295 : mvDec 255 295 = some (.if_icmp .eq 731, 3) := mvDec_of cd255 (by decide +kernel)
theorem dw298 : mvDec 255 298 = some (.iconst 0, 1) := mvDec_of cd255 (by decide +kernel)
theorem dw299 : mvDec 255 299 = some (.ireturn, 1) := mvDec_of cd255 (by decide +kernel)
theorem dw300 : mvDec 255 300 = some (.aload_n 1, 1) := mvDec_of cd255 (by decide +kernel)
theorem dw301 : mvDec 255 301 = some (.aload_n 0, 1) := mvDec_of cd255 (by decide +kernel)
theorem dw302 : mvDec 255 302 = some (.iload_n 3, 1) := mvDec_of cd255 (by decide +kernel)
theorem dw303 : mvDec 255 303 = some (.iconst 1, 1) := mvDec_of cd255 (by decide +kernel)
theorem dw304 : mvDec 255 304 = some (.iadd, 1) := mvDec_of cd255 (by decide +kernel)
theorem dw305 : mvDec 255 305 = some (.iaload, 1) := mvDec_of cd255 (by decide +kernel)
theorem dw306 : mvDec 255 306 = some (.aload_n 0, 1) := mvDec_of cd255 (by decide +kernel)
theorem dw307 : mvDec 255 307 = some (.iload_n 3, 1) := mvDec_of cd255 (by decide +kernel)
theorem dw308 : mvDec 255 308 = some (.iconst 2, 1) := mvDec_of cd255 (by decide +kernel)
theorem dw309 : mvDec 255 309 = some (.iadd, 1) := mvDec_of cd255 (by decide +kernel)
theorem dw310 : mvDec 255 310 = some (.iaload, 1) := mvDec_of cd255 (by decide +kernel)
theorem dw311 : mvDec 255 311 = some (.invokevirtual 40, 3) := mvDec_of cd255 (by decide +kernel)
theorem dw314 : mvDec 255 314 = some (.aload_n 2, 1) := mvDec_of cd255 (by decide +kernel)
theorem dw315 : mvDec 255 315 = some (.aload_n 0, 1) := mvDec_of cd255 (by decide +kernel)
theorem dw316 : mvDec 255 316 = some (.iload_n 3, 1) := mvDec_of cd255 (by decide +kernel)
theorem dw317 : mvDec 255 317 = some (.iconst 1, 1) := mvDec_of cd255 (by decide +kernel)
theorem dw318 : mvDec 255 318 = some (.iadd, 1) := mvDec_of cd255 (by decide +kernel)
theorem dw319 : mvDec 255 319 = some (.iaload, 1) := mvDec_of cd255 (by decide +kernel)
theorem dw320 : mvDec 255 320 = some (.aload_n 0, 1) := mvDec_of cd255 (by decide +kernel)
theorem dw321 : mvDec 255 321 = some (.iload_n 3, 1) := mvDec_of cd255 (by decide +kernel)
theorem dw322 : mvDec 255 322 = some (.iconst 2, 1) := mvDec_of cd255 (by decide +kernel)
theorem dw323 : mvDec 255 323 = some (.iadd, 1) := mvDec_of cd255 (by decide +kernel)
theorem dw324 : mvDec 255 324 = some (.iaload, 1) := mvDec_of cd255 (by decide +kernel)
theorem dw325 : mvDec 255 325 = some (.invokevirtual 43, 3) := mvDec_of cd255 (by decide +kernel)
theorem dw328 : mvDec 255 328 = some (.if_icmp .eq 698, 3) := mvDec_of cd255 (by decide +kernel)
theorem dw331 : mvDec 255 331 = some (.iconst 0, 1) := mvDec_of cd255 (by decide +kernel)
theorem dw332 : mvDec 255 332 = some (.ireturn, 1) := mvDec_of cd255 (by decide +kernel)
theorem dw333 : mvDec 255 333 = some (.aload_n 1, 1) := mvDec_of cd255 (by decide +kernel)
theorem dw334 : mvDec 255 334 = some (.aload_n 0, 1) := mvDec_of cd255 (by decide +kernel)
theorem dw335 : mvDec 255 335 = some (.iload_n 3, 1) := mvDec_of cd255 (by decide +kernel)
theorem dw336 : mvDec 255 336 = some (.iconst 1, 1) := mvDec_of cd255 (by decide +kernel)
theorem dw337 : mvDec 255 337 = some (.iadd, 1) := mvDec_of cd255 (by decide +kernel)
theorem dw338 : mvDec 255 338 = some (.iaload, 1) := mvDec_of cd255 (by decide +kernel)
theorem dw339 : mvDec 255 339 = some (.invokevirtual 44, 3) := mvDec_of cd255 (by decide +kernel)
theorem dw342 : mvDec 255 342 = some (.aload_n 2, 1) := mvDec_of cd255 (by decide +kernel)
theorem dw343 : mvDec 255 343 = some (.aload_n 0, 1) := mvDec_of cd255 (by decide +kernel)
theorem dw344 : mvDec 255 344 = some (.iload_n 3, 1) := mvDec_of cd255 (by decide +kernel)
theorem dw345 : mvDec 255 345 = some (.iconst 1, 1) := mvDec_of cd255 (by decide +kernel)
theorem dw346 : mvDec 255 346 = some (.iadd, 1) := mvDec_of cd255 (by decide +kernel)
theorem dw347 : mvDec 255 347 = some (.iaload, 1) := mvDec_of cd255 (by decide +kernel)
theorem dw348 : mvDec 255 348 = some (.invokevirtual 47, 3) := mvDec_of cd255 (by decide +kernel)
theorem dw351 : mvDec 255 351 = some (.if_icmp .eq 675, 3) := mvDec_of cd255 (by decide +kernel)
theorem dw354 : mvDec 255 354 = some (.iconst 0, 1) := mvDec_of cd255 (by decide +kernel)
theorem dw355 : mvDec 255 355 = some (.ireturn, 1) := mvDec_of cd255 (by decide +kernel)
theorem dw356 : mvDec 255 356 = some (.aload_n 1, 1) := mvDec_of cd255 (by decide +kernel)
theorem dw357 : mvDec 255 357 = some (.aload_n 0, 1) := mvDec_of cd255 (by decide +kernel)
theorem dw358 : mvDec 255 358 = some (.iload_n 3, 1) := mvDec_of cd255 (by decide +kernel)
theorem dw359 : mvDec 255 359 = some (.iconst 1, 1) := mvDec_of cd255 (by decide +kernel)
theorem dw360 : mvDec 255 360 = some (.iadd, 1) := mvDec_of cd255 (by decide +kernel)
theorem dw361 : mvDec 255 361 = some (.iaload, 1) := mvDec_of cd255 (by decide +kernel)
theorem dw362 : mvDec 255 362 = some (.aload_n 0, 1) := mvDec_of cd255 (by decide +kernel)
theorem dw363 : mvDec 255 363 = some (.iload_n 3, 1) := mvDec_of cd255 (by decide +kernel)
theorem dw364 : mvDec 255 364 = some (.iconst 2, 1) := mvDec_of cd255 (by decide +kernel)
theorem dw365 : mvDec 255 365 = some (.iadd, 1) := mvDec_of cd255 (by decide +kernel)
theorem dw366 : mvDec 255 366 = some (.iaload, 1) := mvDec_of cd255 (by decide +kernel)
theorem dw367 : mvDec 255 367 = some (.aload_n 0, 1) := mvDec_of cd255 (by decide +kernel)
theorem dw368 : mvDec 255 368 = some (.iload_n 3, 1) := mvDec_of cd255 (by decide +kernel)
theorem dw369 : mvDec 255 369 = some (.iconst 3, 1) := mvDec_of cd255 (by decide +kernel)
theorem dw370 : mvDec 255 370 = some (.iadd, 1) := mvDec_of cd255 (by decide +kernel)
theorem dw371 : mvDec 255 371 = some (.iaload, 1) := mvDec_of cd255 (by decide +kernel)
theorem dw372 : mvDec 255 372 = some (.invokevirtual 48, 3) := mvDec_of cd255 (by decide +kernel)
theorem dw375 : mvDec 255 375 = some (.aload_n 2, 1) := mvDec_of cd255 (by decide +kernel)
theorem dw376 : mvDec 255 376 = some (.aload_n 0, 1) := mvDec_of cd255 (by decide +kernel)
theorem dw377 : mvDec 255 377 = some (.iload_n 3, 1) := mvDec_of cd255 (by decide +kernel)
theorem dw378 : mvDec 255 378 = some (.iconst 1, 1) := mvDec_of cd255 (by decide +kernel)
theorem dw379 : mvDec 255 379 = some (.iadd, 1) := mvDec_of cd255 (by decide +kernel)
theorem dw380 : mvDec 255 380 = some (.iaload, 1) := mvDec_of cd255 (by decide +kernel)
theorem dw381 : mvDec 255 381 = some (.aload_n 0, 1) := mvDec_of cd255 (by decide +kernel)
theorem dw382 : mvDec 255 382 = some (.iload_n 3, 1) := mvDec_of cd255 (by decide +kernel)
theorem dw383 : mvDec 255 383 = some (.iconst 2, 1) := mvDec_of cd255 (by decide +kernel)
theorem dw384 : mvDec 255 384 = some (.iadd, 1) := mvDec_of cd255 (by decide +kernel)
theorem dw385 : mvDec 255 385 = some (.iaload, 1) := mvDec_of cd255 (by decide +kernel)
theorem dw386 : mvDec 255 386 = some (.aload_n 0, 1) := mvDec_of cd255 (by decide +kernel)
theorem dw387 : mvDec 255 387 = some (.iload_n 3, 1) := mvDec_of cd255 (by decide +kernel)
theorem dw388 : mvDec 255 388 = some (.iconst 3, 1) := mvDec_of cd255 (by decide +kernel)
theorem dw389 : mvDec 255 389 = some (.iadd, 1) := mvDec_of cd255 (by decide +kernel)
theorem dw390 : mvDec 255 390 = some (.iaload, 1) := mvDec_of cd255 (by decide +kernel)
theorem dw391 : mvDec 255 391 = some (.invokevirtual 52, 3) := mvDec_of cd255 (by decide +kernel)
theorem dw394 : mvDec 255 394 = some (.if_icmp .eq 632, 3) := mvDec_of cd255 (by decide +kernel)
theorem dw397 : mvDec 255 397 = some (.iconst 0, 1) := mvDec_of cd255 (by decide +kernel)
theorem dw398 : mvDec 255 398 = some (.ireturn, 1) := mvDec_of cd255 (by decide +kernel)
theorem dw399 : mvDec 255 399 = some (.aload_n 1, 1) := mvDec_of cd255 (by decide +kernel)
theorem dw400 : mvDec 255 400 = some (.aload_n 0, 1) := mvDec_of cd255 (by decide +kernel)
theorem dw401 : mvDec 255 401 = some (.iload_n 3, 1) := mvDec_of cd255 (by decide +kernel)
theorem dw402 : mvDec 255 402 = some (.iconst 1, 1) := mvDec_of cd255 (by decide +kernel)
theorem dw403 : mvDec 255 403 = some (.iadd, 1) := mvDec_of cd255 (by decide +kernel)
theorem dw404 : mvDec 255 404 = some (.iaload, 1) := mvDec_of cd255 (by decide +kernel)
theorem dw405 : mvDec 255 405 = some (.aload_n 0, 1) := mvDec_of cd255 (by decide +kernel)
theorem dw406 : mvDec 255 406 = some (.iload_n 3, 1) := mvDec_of cd255 (by decide +kernel)
theorem dw407 : mvDec 255 407 = some (.iconst 2, 1) := mvDec_of cd255 (by decide +kernel)
theorem dw408 : mvDec 255 408 = some (.iadd, 1) := mvDec_of cd255 (by decide +kernel)
theorem dw409 : mvDec 255 409 = some (.iaload, 1) := mvDec_of cd255 (by decide +kernel)
theorem dw410 : mvDec 255 410 = some (.aload_n 0, 1) := mvDec_of cd255 (by decide +kernel)
theorem dw411 : mvDec 255 411 = some (.iload_n 3, 1) := mvDec_of cd255 (by decide +kernel)
theorem dw412 : mvDec 255 412 = some (.iconst 3, 1) := mvDec_of cd255 (by decide +kernel)
theorem dw413 : mvDec 255 413 = some (.iadd, 1) := mvDec_of cd255 (by decide +kernel)
theorem dw414 : mvDec 255 414 = some (.iaload, 1) := mvDec_of cd255 (by decide +kernel)
theorem dw415 : mvDec 255 415 = some (.aload_n 0, 1) := mvDec_of cd255 (by decide +kernel)
theorem dw416 : mvDec 255 416 = some (.iload_n 3, 1) := mvDec_of cd255 (by decide +kernel)
theorem dw417 : mvDec 255 417 = some (.iconst 4, 1) := mvDec_of cd255 (by decide +kernel)
theorem dw418 : mvDec 255 418 = some (.iadd, 1) := mvDec_of cd255 (by decide +kernel)
theorem dw419 : mvDec 255 419 = some (.iaload, 1) := mvDec_of cd255 (by decide +kernel)
theorem dw420 : mvDec 255 420 = some (.invokevirtual 53, 3) := mvDec_of cd255 (by decide +kernel)
theorem dw423 : mvDec 255 423 = some (.aload_n 2, 1) := mvDec_of cd255 (by decide +kernel)
theorem dw424 : mvDec 255 424 = some (.aload_n 0, 1) := mvDec_of cd255 (by decide +kernel)
theorem dw425 : mvDec 255 425 = some (.iload_n 3, 1) := mvDec_of cd255 (by decide +kernel)
theorem dw426 : mvDec 255 426 = some (.iconst 1, 1) := mvDec_of cd255 (by decide +kernel)
theorem dw427 : mvDec 255 427 = some (.iadd, 1) := mvDec_of cd255 (by decide +kernel)
theorem dw428 : mvDec 255 428 = some (.iaload, 1) := mvDec_of cd255 (by decide +kernel)
theorem dw429 : mvDec 255 429 = some (.aload_n 0, 1) := mvDec_of cd255 (by decide +kernel)
theorem dw430 : mvDec 255 430 = some (.iload_n 3, 1) := mvDec_of cd255 (by decide +kernel)
theorem dw431 : mvDec 255 431 = some (.iconst 2, 1) := mvDec_of cd255 (by decide +kernel)
theorem dw432 : mvDec 255 432 = some (.iadd, 1) := mvDec_of cd255 (by decide +kernel)
theorem dw433 : mvDec 255 433 = some (.iaload, 1) := mvDec_of cd255 (by decide +kernel)
theorem dw434 : mvDec 255 434 = some (.aload_n 0, 1) := mvDec_of cd255 (by decide +kernel)
theorem dw435 : mvDec 255 435 = some (.iload_n 3, 1) := mvDec_of cd255 (by decide +kernel)
theorem dw436 : mvDec 255 436 = some (.iconst 3, 1) := mvDec_of cd255 (by decide +kernel)
theorem dw437 : mvDec 255 437 = some (.iadd, 1) := mvDec_of cd255 (by decide +kernel)
theorem dw438 : mvDec 255 438 = some (.iaload, 1) := mvDec_of cd255 (by decide +kernel)
theorem dw439 : mvDec 255 439 = some (.aload_n 0, 1) := mvDec_of cd255 (by decide +kernel)
theorem dw440 : mvDec 255 440 = some (.iload_n 3, 1) := mvDec_of cd255 (by decide +kernel)
theorem dw441 : mvDec 255 441 = some (.iconst 4, 1) := mvDec_of cd255 (by decide +kernel)
theorem dw442 : mvDec 255 442 = some (.iadd, 1) := mvDec_of cd255 (by decide +kernel)
theorem dw443 : mvDec 255 443 = some (.iaload, 1) := mvDec_of cd255 (by decide +kernel)
theorem dw444 : mvDec 255 444 = some (.invokevirtual 57, 3) := mvDec_of cd255 (by decide +kernel)
theorem dw447 : mvDec 255 447 = some (.if_icmp .eq 579, 3) := mvDec_of cd255 (by decide +kernel)
theorem dw450 : mvDec 255 450 = some (.iconst 0, 1) := mvDec_of cd255 (by decide +kernel)
theorem dw451 : mvDec 255 451 = some (.ireturn, 1) := mvDec_of cd255 (by decide +kernel)
theorem dw452 : mvDec 255 452 = some (.aload_n 1, 1) := mvDec_of cd255 (by decide +kernel)
theorem dw453 : mvDec 255 453 = some (.aload_n 0, 1) := mvDec_of cd255 (by decide +kernel)
theorem dw454 : mvDec 255 454 = some (.iload_n 3, 1) := mvDec_of cd255 (by decide +kernel)
theorem dw455 : mvDec 255 455 = some (.iconst 1, 1) := mvDec_of cd255 (by decide +kernel)
theorem dw456 : mvDec 255 456 = some (.iadd, 1) := mvDec_of cd255 (by decide +kernel)
theorem dw457 : mvDec 255 457 = some (.iaload, 1) := mvDec_of cd255 (by decide +kernel)
theorem dw458 : mvDec 255 458 = some (.aload_n 0, 1) := mvDec_of cd255 (by decide +kernel)
theorem dw459 : mvDec 255 459 = some (.iload_n 3, 1) := mvDec_of cd255 (by decide +kernel)
theorem dw460 : mvDec 255 460 = some (.iconst 2, 1) := mvDec_of cd255 (by decide +kernel)
theorem dw461 : mvDec 255 461 = some (.iadd, 1) := mvDec_of cd255 (by decide +kernel)
theorem dw462 : mvDec 255 462 = some (.iaload, 1) := mvDec_of cd255 (by decide +kernel)
theorem dw463 : mvDec 255 463 = some (.invokevirtual 58, 3) := mvDec_of cd255 (by decide +kernel)
theorem dw466 : mvDec 255 466 = some (.aload_n 2, 1) := mvDec_of cd255 (by decide +kernel)
theorem dw467 : mvDec 255 467 = some (.aload_n 0, 1) := mvDec_of cd255 (by decide +kernel)
theorem dw468 : mvDec 255 468 = some (.iload_n 3, 1) := mvDec_of cd255 (by decide +kernel)
theorem dw469 : mvDec 255 469 = some (.iconst 1, 1) := mvDec_of cd255 (by decide +kernel)
theorem dw470 : mvDec 255 470 = some (.iadd, 1) := mvDec_of cd255 (by decide +kernel)
theorem dw471 : mvDec 255 471 = some (.iaload, 1) := mvDec_of cd255 (by decide +kernel)
theorem dw472 : mvDec 255 472 = some (.aload_n 0, 1) := mvDec_of cd255 (by decide +kernel)
theorem dw473 : mvDec 255 473 = some (.iload_n 3, 1) := mvDec_of cd255 (by decide +kernel)
theorem dw474 : mvDec 255 474 = some (.iconst 2, 1) := mvDec_of cd255 (by decide +kernel)
theorem dw475 : mvDec 255 475 = some (.iadd, 1) := mvDec_of cd255 (by decide +kernel)
theorem dw476 : mvDec 255 476 = some (.iaload, 1) := mvDec_of cd255 (by decide +kernel)
theorem dw477 : mvDec 255 477 = some (.invokevirtual 61, 3) := mvDec_of cd255 (by decide +kernel)
theorem dw480 : mvDec 255 480 = some (.if_icmp .eq 546, 3) := mvDec_of cd255 (by decide +kernel)
theorem dw483 : mvDec 255 483 = some (.iconst 0, 1) := mvDec_of cd255 (by decide +kernel)
theorem dw484 : mvDec 255 484 = some (.ireturn, 1) := mvDec_of cd255 (by decide +kernel)
theorem dw485 : mvDec 255 485 = some (.aload_n 1, 1) := mvDec_of cd255 (by decide +kernel)
theorem dw486 : mvDec 255 486 = some (.aload_n 0, 1) := mvDec_of cd255 (by decide +kernel)
theorem dw487 : mvDec 255 487 = some (.iload_n 3, 1) := mvDec_of cd255 (by decide +kernel)
theorem dw488 : mvDec 255 488 = some (.iconst 1, 1) := mvDec_of cd255 (by decide +kernel)
theorem dw489 : mvDec 255 489 = some (.iadd, 1) := mvDec_of cd255 (by decide +kernel)
theorem dw490 : mvDec 255 490 = some (.iaload, 1) := mvDec_of cd255 (by decide +kernel)
theorem dw491 : mvDec 255 491 = some (.aload_n 0, 1) := mvDec_of cd255 (by decide +kernel)
theorem dw492 : mvDec 255 492 = some (.iload_n 3, 1) := mvDec_of cd255 (by decide +kernel)
theorem dw493 : mvDec 255 493 = some (.iconst 2, 1) := mvDec_of cd255 (by decide +kernel)
theorem dw494 : mvDec 255 494 = some (.iadd, 1) := mvDec_of cd255 (by decide +kernel)
theorem dw495 : mvDec 255 495 = some (.iaload, 1) := mvDec_of cd255 (by decide +kernel)
theorem dw496 : mvDec 255 496 = some (.invokevirtual 62, 3) := mvDec_of cd255 (by decide +kernel)
theorem dw499 : mvDec 255 499 = some (.aload_n 2, 1) := mvDec_of cd255 (by decide +kernel)
theorem dw500 : mvDec 255 500 = some (.aload_n 0, 1) := mvDec_of cd255 (by decide +kernel)
theorem dw501 : mvDec 255 501 = some (.iload_n 3, 1) := mvDec_of cd255 (by decide +kernel)
theorem dw502 : mvDec 255 502 = some (.iconst 1, 1) := mvDec_of cd255 (by decide +kernel)
theorem dw503 : mvDec 255 503 = some (.iadd, 1) := mvDec_of cd255 (by decide +kernel)
theorem dw504 : mvDec 255 504 = some (.iaload, 1) := mvDec_of cd255 (by decide +kernel)
theorem dw505 : mvDec 255 505 = some (.aload_n 0, 1) := mvDec_of cd255 (by decide +kernel)
theorem dw506 : mvDec 255 506 = some (.iload_n 3, 1) := mvDec_of cd255 (by decide +kernel)
theorem dw507 : mvDec 255 507 = some (.iconst 2, 1) := mvDec_of cd255 (by decide +kernel)
theorem dw508 : mvDec 255 508 = some (.iadd, 1) := mvDec_of cd255 (by decide +kernel)
theorem dw509 : mvDec 255 509 = some (.iaload, 1) := mvDec_of cd255 (by decide +kernel)
theorem dw510 : mvDec 255 510 = some (.invokevirtual 65, 3) := mvDec_of cd255 (by decide +kernel)
theorem dw513 : mvDec 255 513 = some (.if_icmp .eq 513, 3) := mvDec_of cd255 (by decide +kernel)
theorem dw516 : mvDec 255 516 = some (.iconst 0, 1) := mvDec_of cd255 (by decide +kernel)
theorem dw517 : mvDec 255 517 = some (.ireturn, 1) := mvDec_of cd255 (by decide +kernel)
theorem dw518 : mvDec 255 518 = some (.aload_n 1, 1) := mvDec_of cd255 (by decide +kernel)
theorem dw519 : mvDec 255 519 = some (.aload_n 0, 1) := mvDec_of cd255 (by decide +kernel)
theorem dw520 : mvDec 255 520 = some (.iload_n 3, 1) := mvDec_of cd255 (by decide +kernel)
theorem dw521 : mvDec 255 521 = some (.iconst 1, 1) := mvDec_of cd255 (by decide +kernel)
theorem dw522 : mvDec 255 522 = some (.iadd, 1) := mvDec_of cd255 (by decide +kernel)
theorem dw523 : mvDec 255 523 = some (.iaload, 1) := mvDec_of cd255 (by decide +kernel)
theorem dw524 : mvDec 255 524 = some (.aload_n 0, 1) := mvDec_of cd255 (by decide +kernel)
theorem dw525 : mvDec 255 525 = some (.iload_n 3, 1) := mvDec_of cd255 (by decide +kernel)
theorem dw526 : mvDec 255 526 = some (.iconst 2, 1) := mvDec_of cd255 (by decide +kernel)
theorem dw527 : mvDec 255 527 = some (.iadd, 1) := mvDec_of cd255 (by decide +kernel)
theorem dw528 : mvDec 255 528 = some (.iaload, 1) := mvDec_of cd255 (by decide +kernel)
theorem dw529 : mvDec 255 529 = some (.aload_n 0, 1) := mvDec_of cd255 (by decide +kernel)
theorem dw530 : mvDec 255 530 = some (.iload_n 3, 1) := mvDec_of cd255 (by decide +kernel)
theorem dw531 : mvDec 255 531 = some (.iconst 3, 1) := mvDec_of cd255 (by decide +kernel)
theorem dw532 : mvDec 255 532 = some (.iadd, 1) := mvDec_of cd255 (by decide +kernel)
theorem dw533 : mvDec 255 533 = some (.iaload, 1) := mvDec_of cd255 (by decide +kernel)
theorem dw534 : mvDec 255 534 = some (.invokevirtual 66, 3) := mvDec_of cd255 (by decide +kernel)
theorem dw537 : mvDec 255 537 = some (.aload_n 2, 1) := mvDec_of cd255 (by decide +kernel)
theorem dw538 : mvDec 255 538 = some (.aload_n 0, 1) := mvDec_of cd255 (by decide +kernel)
theorem dw539 : mvDec 255 539 = some (.iload_n 3, 1) := mvDec_of cd255 (by decide +kernel)
theorem dw540 : mvDec 255 540 = some (.iconst 1, 1) := mvDec_of cd255 (by decide +kernel)
theorem dw541 : mvDec 255 541 = some (.iadd, 1) := mvDec_of cd255 (by decide +kernel)
theorem dw542 : mvDec 255 542 = some (.iaload, 1) := mvDec_of cd255 (by decide +kernel)
theorem dw543 : mvDec 255 543 = some (.aload_n 0, 1) := mvDec_of cd255 (by decide +kernel)
theorem dw544 : mvDec 255 544 = some (.iload_n 3, 1) := mvDec_of cd255 (by decide +kernel)
theorem dw545 : mvDec 255 545 = some (.iconst 2, 1) := mvDec_of cd255 (by decide +kernel)
theorem dw546 : mvDec 255 546 = some (.iadd, 1) := mvDec_of cd255 (by decide +kernel)
theorem dw547 : mvDec 255 547 = some (.iaload, 1) := mvDec_of cd255 (by decide +kernel)
theorem dw548 : mvDec 255 548 = some (.aload_n 0, 1) := mvDec_of cd255 (by decide +kernel)
theorem dw549 : mvDec 255 549 = some (.iload_n 3, 1) := mvDec_of cd255 (by decide +kernel)
theorem dw550 : mvDec 255 550 = some (.iconst 3, 1) := mvDec_of cd255 (by decide +kernel)
theorem dw551 : mvDec 255 551 = some (.iadd, 1) := mvDec_of cd255 (by decide +kernel)
theorem dw552 : mvDec 255 552 = some (.iaload, 1) := mvDec_of cd255 (by decide +kernel)
theorem dw553 : mvDec 255 553 = some (.invokevirtual 69, 3) := mvDec_of cd255 (by decide +kernel)
theorem dw556 : mvDec 255 556 = some (.if_icmp .eq 470, 3) := mvDec_of cd255 (by decide +kernel)
theorem dw559 : mvDec 255 559 = some (.iconst 0, 1) := mvDec_of cd255 (by decide +kernel)
theorem dw560 : mvDec 255 560 = some (.ireturn, 1) := mvDec_of cd255 (by decide +kernel)
theorem dw561 : mvDec 255 561 = some (.aload_n 1, 1) := mvDec_of cd255 (by decide +kernel)
theorem dw562 : mvDec 255 562 = some (.aload_n 0, 1) := mvDec_of cd255 (by decide +kernel)
theorem dw563 : mvDec 255 563 = some (.iload_n 3, 1) := mvDec_of cd255 (by decide +kernel)
theorem dw564 : mvDec 255 564 = some (.iconst 1, 1) := mvDec_of cd255 (by decide +kernel)
theorem dw565 : mvDec 255 565 = some (.iadd, 1) := mvDec_of cd255 (by decide +kernel)
theorem dw566 : mvDec 255 566 = some (.iaload, 1) := mvDec_of cd255 (by decide +kernel)
theorem dw567 : mvDec 255 567 = some (.aload_n 0, 1) := mvDec_of cd255 (by decide +kernel)
theorem dw568 : mvDec 255 568 = some (.iload_n 3, 1) := mvDec_of cd255 (by decide +kernel)
theorem dw569 : mvDec 255 569 = some (.iconst 2, 1) := mvDec_of cd255 (by decide +kernel)
theorem dw570 : mvDec 255 570 = some (.iadd, 1) := mvDec_of cd255 (by decide +kernel)
theorem dw571 : mvDec 255 571 = some (.iaload, 1) := mvDec_of cd255 (by decide +kernel)
theorem dw572 : mvDec 255 572 = some (.invokevirtual 70, 3) := mvDec_of cd255 (by decide +kernel)
theorem dw575 : mvDec 255 575 = some (.aload_n 2, 1) := mvDec_of cd255 (by decide +kernel)
theorem dw576 : mvDec 255 576 = some (.aload_n 0, 1) := mvDec_of cd255 (by decide +kernel)
theorem dw577 : mvDec 255 577 = some (.iload_n 3, 1) := mvDec_of cd255 (by decide +kernel)
theorem dw578 : mvDec 255 578 = some (.iconst 1, 1) := mvDec_of cd255 (by decide +kernel)
theorem dw579 : mvDec 255 579 = some (.iadd, 1) := mvDec_of cd255 (by decide +kernel)
theorem dw580 : mvDec 255 580 = some (.iaload, 1) := mvDec_of cd255 (by decide +kernel)
theorem dw581 : mvDec 255 581 = some (.aload_n 0, 1) := mvDec_of cd255 (by decide +kernel)
theorem dw582 : mvDec 255 582 = some (.iload_n 3, 1) := mvDec_of cd255 (by decide +kernel)
theorem dw583 : mvDec 255 583 = some (.iconst 2, 1) := mvDec_of cd255 (by decide +kernel)
theorem dw584 : mvDec 255 584 = some (.iadd, 1) := mvDec_of cd255 (by decide +kernel)
theorem dw585 : mvDec 255 585 = some (.iaload, 1) := mvDec_of cd255 (by decide +kernel)
theorem dw586 : mvDec 255 586 = some (.invokevirtual 73, 3) := mvDec_of cd255 (by decide +kernel)
theorem dw589 : mvDec 255 589 = some (.if_icmp .eq 437, 3) := mvDec_of cd255 (by decide +kernel)
theorem dw592 : mvDec 255 592 = some (.iconst 0, 1) := mvDec_of cd255 (by decide +kernel)
theorem dw593 : mvDec 255 593 = some (.ireturn, 1) := mvDec_of cd255 (by decide +kernel)
theorem dw594 : mvDec 255 594 = some (.aload_n 1, 1) := mvDec_of cd255 (by decide +kernel)
theorem dw595 : mvDec 255 595 = some (.aload_n 0, 1) := mvDec_of cd255 (by decide +kernel)
theorem dw596 : mvDec 255 596 = some (.iload_n 3, 1) := mvDec_of cd255 (by decide +kernel)
theorem dw597 : mvDec 255 597 = some (.iconst 1, 1) := mvDec_of cd255 (by decide +kernel)
theorem dw598 : mvDec 255 598 = some (.iadd, 1) := mvDec_of cd255 (by decide +kernel)
theorem dw599 : mvDec 255 599 = some (.iaload, 1) := mvDec_of cd255 (by decide +kernel)
theorem dw600 : mvDec 255 600 = some (.aload_n 0, 1) := mvDec_of cd255 (by decide +kernel)
theorem dw601 : mvDec 255 601 = some (.iload_n 3, 1) := mvDec_of cd255 (by decide +kernel)
theorem dw602 : mvDec 255 602 = some (.iconst 2, 1) := mvDec_of cd255 (by decide +kernel)
theorem dw603 : mvDec 255 603 = some (.iadd, 1) := mvDec_of cd255 (by decide +kernel)
theorem dw604 : mvDec 255 604 = some (.iaload, 1) := mvDec_of cd255 (by decide +kernel)
theorem dw605 : mvDec 255 605 = some (.invokevirtual 74, 3) := mvDec_of cd255 (by decide +kernel)
theorem dw608 : mvDec 255 608 = some (.aload_n 2, 1) := mvDec_of cd255 (by decide +kernel)
theorem dw609 : mvDec 255 609 = some (.aload_n 0, 1) := mvDec_of cd255 (by decide +kernel)
theorem dw610 : mvDec 255 610 = some (.iload_n 3, 1) := mvDec_of cd255 (by decide +kernel)
theorem dw611 : mvDec 255 611 = some (.iconst 1, 1) := mvDec_of cd255 (by decide +kernel)
theorem dw612 : mvDec 255 612 = some (.iadd, 1) := mvDec_of cd255 (by decide +kernel)
theorem dw613 : mvDec 255 613 = some (.iaload, 1) := mvDec_of cd255 (by decide +kernel)
theorem dw614 : mvDec 255 614 = some (.aload_n 0, 1) := mvDec_of cd255 (by decide +kernel)
theorem dw615 : mvDec 255 615 = some (.iload_n 3, 1) := mvDec_of cd255 (by decide +kernel)
theorem dw616 : mvDec 255 616 = some (.iconst 2, 1) := mvDec_of cd255 (by decide +kernel)
theorem dw617 : mvDec 255 617 = some (.iadd, 1) := mvDec_of cd255 (by decide +kernel)
theorem dw618 : mvDec 255 618 = some (.iaload, 1) := mvDec_of cd255 (by decide +kernel)
theorem dw619 : mvDec 255 619 = some (.invokevirtual 77, 3) := mvDec_of cd255 (by decide +kernel)
theorem dw622 : mvDec 255 622 = some (.if_icmp .eq 404, 3) := mvDec_of cd255 (by decide +kernel)
theorem dw625 : mvDec 255 625 = some (.iconst 0, 1) := mvDec_of cd255 (by decide +kernel)
theorem dw626 : mvDec 255 626 = some (.ireturn, 1) := mvDec_of cd255 (by decide +kernel)
theorem dw627 : mvDec 255 627 = some (.aload_n 1, 1) := mvDec_of cd255 (by decide +kernel)
theorem dw628 : mvDec 255 628 = some (.aload_n 0, 1) := mvDec_of cd255 (by decide +kernel)
theorem dw629 : mvDec 255 629 = some (.iload_n 3, 1) := mvDec_of cd255 (by decide +kernel)
theorem dw630 : mvDec 255 630 = some (.iconst 1, 1) := mvDec_of cd255 (by decide +kernel)
theorem dw631 : mvDec 255 631 = some (.iadd, 1) := mvDec_of cd255 (by decide +kernel)
theorem dw632 : mvDec 255 632 = some (.iaload, 1) := mvDec_of cd255 (by decide +kernel)
theorem dw633 : mvDec 255 633 = some (.invokevirtual 78, 3) := mvDec_of cd255 (by decide +kernel)
theorem dw636 : mvDec 255 636 = some (.aload_n 2, 1) := mvDec_of cd255 (by decide +kernel)
theorem dw637 : mvDec 255 637 = some (.aload_n 0, 1) := mvDec_of cd255 (by decide +kernel)
theorem dw638 : mvDec 255 638 = some (.iload_n 3, 1) := mvDec_of cd255 (by decide +kernel)
theorem dw639 : mvDec 255 639 = some (.iconst 1, 1) := mvDec_of cd255 (by decide +kernel)
theorem dw640 : mvDec 255 640 = some (.iadd, 1) := mvDec_of cd255 (by decide +kernel)
theorem dw641 : mvDec 255 641 = some (.iaload, 1) := mvDec_of cd255 (by decide +kernel)
theorem dw642 : mvDec 255 642 = some (.invokevirtual 81, 3) := mvDec_of cd255 (by decide +kernel)
theorem dw645 : mvDec 255 645 = some (.if_icmp .eq 381, 3) := mvDec_of cd255 (by decide +kernel)
theorem dw648 : mvDec 255 648 = some (.iconst 0, 1) := mvDec_of cd255 (by decide +kernel)
theorem dw649 : mvDec 255 649 = some (.ireturn, 1) := mvDec_of cd255 (by decide +kernel)
theorem dw650 : mvDec 255 650 = some (.aload_n 1, 1) := mvDec_of cd255 (by decide +kernel)
theorem dw651 : mvDec 255 651 = some (.aload_n 0, 1) := mvDec_of cd255 (by decide +kernel)
theorem dw652 : mvDec 255 652 = some (.iload_n 3, 1) := mvDec_of cd255 (by decide +kernel)
theorem dw653 : mvDec 255 653 = some (.iconst 1, 1) := mvDec_of cd255 (by decide +kernel)
theorem dw654 : mvDec 255 654 = some (.iadd, 1) := mvDec_of cd255 (by decide +kernel)
theorem dw655 : mvDec 255 655 = some (.iaload, 1) := mvDec_of cd255 (by decide +kernel)
theorem dw656 : mvDec 255 656 = some (.aload_n 0, 1) := mvDec_of cd255 (by decide +kernel)
theorem dw657 : mvDec 255 657 = some (.iload_n 3, 1) := mvDec_of cd255 (by decide +kernel)
theorem dw658 : mvDec 255 658 = some (.iconst 2, 1) := mvDec_of cd255 (by decide +kernel)
theorem dw659 : mvDec 255 659 = some (.iadd, 1) := mvDec_of cd255 (by decide +kernel)
theorem dw660 : mvDec 255 660 = some (.iaload, 1) := mvDec_of cd255 (by decide +kernel)
theorem dw661 : mvDec 255 661 = some (.invokevirtual 82, 3) := mvDec_of cd255 (by decide +kernel)
theorem dw664 : mvDec 255 664 = some (.aload_n 2, 1) := mvDec_of cd255 (by decide +kernel)
theorem dw665 : mvDec 255 665 = some (.aload_n 0, 1) := mvDec_of cd255 (by decide +kernel)
theorem dw666 : mvDec 255 666 = some (.iload_n 3, 1) := mvDec_of cd255 (by decide +kernel)
theorem dw667 : mvDec 255 667 = some (.iconst 1, 1) := mvDec_of cd255 (by decide +kernel)
theorem dw668 : mvDec 255 668 = some (.iadd, 1) := mvDec_of cd255 (by decide +kernel)
theorem dw669 : mvDec 255 669 = some (.iaload, 1) := mvDec_of cd255 (by decide +kernel)
theorem dw670 : mvDec 255 670 = some (.aload_n 0, 1) := mvDec_of cd255 (by decide +kernel)
theorem dw671 : mvDec 255 671 = some (.iload_n 3, 1) := mvDec_of cd255 (by decide +kernel)
theorem dw672 : mvDec 255 672 = some (.iconst 2, 1) := mvDec_of cd255 (by decide +kernel)
theorem dw673 : mvDec 255 673 = some (.iadd, 1) := mvDec_of cd255 (by decide +kernel)
theorem dw674 : mvDec 255 674 = some (.iaload, 1) := mvDec_of cd255 (by decide +kernel)
theorem dw675 : mvDec 255 675 = some (.invokevirtual 85, 3) := mvDec_of cd255 (by decide +kernel)
theorem dw678 : mvDec 255 678 = some (.if_icmp .eq 348, 3) := mvDec_of cd255 (by decide +kernel)
theorem dw681 : mvDec 255 681 = some (.iconst 0, 1) := mvDec_of cd255 (by decide +kernel)
theorem dw682 : mvDec 255 682 = some (.ireturn, 1) := mvDec_of cd255 (by decide +kernel)
theorem dw683 : mvDec 255 683 = some (.aload_n 1, 1) := mvDec_of cd255 (by decide +kernel)
theorem dw684 : mvDec 255 684 = some (.aload_n 0, 1) := mvDec_of cd255 (by decide +kernel)
theorem dw685 : mvDec 255 685 = some (.iload_n 3, 1) := mvDec_of cd255 (by decide +kernel)
theorem dw686 : mvDec 255 686 = some (.iconst 1, 1) := mvDec_of cd255 (by decide +kernel)
theorem dw687 : mvDec 255 687 = some (.iadd, 1) := mvDec_of cd255 (by decide +kernel)
theorem dw688 : mvDec 255 688 = some (.iaload, 1) := mvDec_of cd255 (by decide +kernel)
theorem dw689 : mvDec 255 689 = some (.aload_n 0, 1) := mvDec_of cd255 (by decide +kernel)
theorem dw690 : mvDec 255 690 = some (.iload_n 3, 1) := mvDec_of cd255 (by decide +kernel)
theorem dw691 : mvDec 255 691 = some (.iconst 2, 1) := mvDec_of cd255 (by decide +kernel)
theorem dw692 : mvDec 255 692 = some (.iadd, 1) := mvDec_of cd255 (by decide +kernel)
theorem dw693 : mvDec 255 693 = some (.iaload, 1) := mvDec_of cd255 (by decide +kernel)
theorem dw694 : mvDec 255 694 = some (.invokevirtual 86, 3) := mvDec_of cd255 (by decide +kernel)
theorem dw697 : mvDec 255 697 = some (.aload_n 2, 1) := mvDec_of cd255 (by decide +kernel)
theorem dw698 : mvDec 255 698 = some (.aload_n 0, 1) := mvDec_of cd255 (by decide +kernel)
theorem dw699 : mvDec 255 699 = some (.iload_n 3, 1) := mvDec_of cd255 (by decide +kernel)
theorem dw700 : mvDec 255 700 = some (.iconst 1, 1) := mvDec_of cd255 (by decide +kernel)
theorem dw701 : mvDec 255 701 = some (.iadd, 1) := mvDec_of cd255 (by decide +kernel)
theorem dw702 : mvDec 255 702 = some (.iaload, 1) := mvDec_of cd255 (by decide +kernel)
theorem dw703 : mvDec 255 703 = some (.aload_n 0, 1) := mvDec_of cd255 (by decide +kernel)
theorem dw704 : mvDec 255 704 = some (.iload_n 3, 1) := mvDec_of cd255 (by decide +kernel)
theorem dw705 : mvDec 255 705 = some (.iconst 2, 1) := mvDec_of cd255 (by decide +kernel)
theorem dw706 : mvDec 255 706 = some (.iadd, 1) := mvDec_of cd255 (by decide +kernel)
theorem dw707 : mvDec 255 707 = some (.iaload, 1) := mvDec_of cd255 (by decide +kernel)
theorem dw708 : mvDec 255 708 = some (.invokevirtual 89, 3) := mvDec_of cd255 (by decide +kernel)
theorem dw711 : mvDec 255 711 = some (.if_icmp .eq 315, 3) := mvDec_of cd255 (by decide +kernel)
theorem dw714 : mvDec 255 714 = some (.iconst 0, 1) := mvDec_of cd255 (by decide +kernel)
theorem dw715 : mvDec 255 715 = some (.ireturn, 1) := mvDec_of cd255 (by decide +kernel)
theorem dw716 : mvDec 255 716 = some (.aload_n 1, 1) := mvDec_of cd255 (by decide +kernel)
theorem dw717 : mvDec 255 717 = some (.aload_n 0, 1) := mvDec_of cd255 (by decide +kernel)
theorem dw718 : mvDec 255 718 = some (.iload_n 3, 1) := mvDec_of cd255 (by decide +kernel)
theorem dw719 : mvDec 255 719 = some (.iconst 1, 1) := mvDec_of cd255 (by decide +kernel)
theorem dw720 : mvDec 255 720 = some (.iadd, 1) := mvDec_of cd255 (by decide +kernel)
theorem dw721 : mvDec 255 721 = some (.iaload, 1) := mvDec_of cd255 (by decide +kernel)
theorem dw722 : mvDec 255 722 = some (.aload_n 0, 1) := mvDec_of cd255 (by decide +kernel)
theorem dw723 : mvDec 255 723 = some (.iload_n 3, 1) := mvDec_of cd255 (by decide +kernel)
theorem dw724 : mvDec 255 724 = some (.iconst 2, 1) := mvDec_of cd255 (by decide +kernel)
theorem dw725 : mvDec 255 725 = some (.iadd, 1) := mvDec_of cd255 (by decide +kernel)
theorem dw726 : mvDec 255 726 = some (.iaload, 1) := mvDec_of cd255 (by decide +kernel)
theorem dw727 : mvDec 255 727 = some (.invokevirtual 90, 3) := mvDec_of cd255 (by decide +kernel)
theorem dw730 : mvDec 255 730 = some (.aload_n 2, 1) := mvDec_of cd255 (by decide +kernel)
theorem dw731 : mvDec 255 731 = some (.aload_n 0, 1) := mvDec_of cd255 (by decide +kernel)
theorem dw732 : mvDec 255 732 = some (.iload_n 3, 1) := mvDec_of cd255 (by decide +kernel)
theorem dw733 : mvDec 255 733 = some (.iconst 1, 1) := mvDec_of cd255 (by decide +kernel)
theorem dw734 : mvDec 255 734 = some (.iadd, 1) := mvDec_of cd255 (by decide +kernel)
theorem dw735 : mvDec 255 735 = some (.iaload, 1) := mvDec_of cd255 (by decide +kernel)
theorem dw736 : mvDec 255 736 = some (.aload_n 0, 1) := mvDec_of cd255 (by decide +kernel)
theorem dw737 : mvDec 255 737 = some (.iload_n 3, 1) := mvDec_of cd255 (by decide +kernel)
theorem dw738 : mvDec 255 738 = some (.iconst 2, 1) := mvDec_of cd255 (by decide +kernel)
theorem dw739 : mvDec 255 739 = some (.iadd, 1) := mvDec_of cd255 (by decide +kernel)
theorem dw740 : mvDec 255 740 = some (.iaload, 1) := mvDec_of cd255 (by decide +kernel)
theorem dw741 : mvDec 255 741 = some (.invokevirtual 93, 3) := mvDec_of cd255 (by decide +kernel)
theorem dw744 : mvDec 255 744 = some (.if_icmp .eq 282, 3) := mvDec_of cd255 (by decide +kernel)
theorem dw747 : mvDec 255 747 = some (.iconst 0, 1) := mvDec_of cd255 (by decide +kernel)
theorem dw748 : mvDec 255 748 = some (.ireturn, 1) := mvDec_of cd255 (by decide +kernel)
theorem dw749 : mvDec 255 749 = some (.aload_n 1, 1) := mvDec_of cd255 (by decide +kernel)
theorem dw750 : mvDec 255 750 = some (.aload_n 0, 1) := mvDec_of cd255 (by decide +kernel)
theorem dw751 : mvDec 255 751 = some (.iload_n 3, 1) := mvDec_of cd255 (by decide +kernel)
theorem dw752 : mvDec 255 752 = some (.iconst 1, 1) := mvDec_of cd255 (by decide +kernel)
theorem dw753 : mvDec 255 753 = some (.iadd, 1) := mvDec_of cd255 (by decide +kernel)
theorem dw754 : mvDec 255 754 = some (.iaload, 1) := mvDec_of cd255 (by decide +kernel)
theorem dw755 : mvDec 255 755 = some (.invokevirtual 94, 3) := mvDec_of cd255 (by decide +kernel)
theorem dw758 : mvDec 255 758 = some (.aload_n 2, 1) := mvDec_of cd255 (by decide +kernel)
theorem dw759 : mvDec 255 759 = some (.aload_n 0, 1) := mvDec_of cd255 (by decide +kernel)
theorem dw760 : mvDec 255 760 = some (.iload_n 3, 1) := mvDec_of cd255 (by decide +kernel)
theorem dw761 : mvDec 255 761 = some (.iconst 1, 1) := mvDec_of cd255 (by decide +kernel)
theorem dw762 : mvDec 255 762 = some (.iadd, 1) := mvDec_of cd255 (by decide +kernel)
theorem dw763 : mvDec 255 763 = some (.iaload, 1) := mvDec_of cd255 (by decide +kernel)
theorem dw764 : mvDec 255 764 = some (.invokevirtual 97, 3) := mvDec_of cd255 (by decide +kernel)
theorem dw767 : mvDec 255 767 = some (.if_icmp .eq 259, 3) := mvDec_of cd255 (by decide +kernel)
theorem dw770 : mvDec 255 770 = some (.iconst 0, 1) := mvDec_of cd255 (by decide +kernel)
theorem dw771 : mvDec 255 771 = some (.ireturn, 1) := mvDec_of cd255 (by decide +kernel)
theorem dw772 : mvDec 255 772 = some (.aload_n 1, 1) := mvDec_of cd255 (by decide +kernel)
theorem dw773 : mvDec 255 773 = some (.aload_n 0, 1) := mvDec_of cd255 (by decide +kernel)
theorem dw774 : mvDec 255 774 = some (.iload_n 3, 1) := mvDec_of cd255 (by decide +kernel)
theorem dw775 : mvDec 255 775 = some (.iconst 1, 1) := mvDec_of cd255 (by decide +kernel)
theorem dw776 : mvDec 255 776 = some (.iadd, 1) := mvDec_of cd255 (by decide +kernel)
theorem dw777 : mvDec 255 777 = some (.iaload, 1) := mvDec_of cd255 (by decide +kernel)
theorem dw778 : mvDec 255 778 = some (.invokevirtual 98, 3) := mvDec_of cd255 (by decide +kernel)
theorem dw781 : mvDec 255 781 = some (.aload_n 2, 1) := mvDec_of cd255 (by decide +kernel)
theorem dw782 : mvDec 255 782 = some (.aload_n 0, 1) := mvDec_of cd255 (by decide +kernel)
theorem dw783 : mvDec 255 783 = some (.iload_n 3, 1) := mvDec_of cd255 (by decide +kernel)
theorem dw784 : mvDec 255 784 = some (.iconst 1, 1) := mvDec_of cd255 (by decide +kernel)
theorem dw785 : mvDec 255 785 = some (.iadd, 1) := mvDec_of cd255 (by decide +kernel)
theorem dw786 : mvDec 255 786 = some (.iaload, 1) := mvDec_of cd255 (by decide +kernel)
theorem dw787 : mvDec 255 787 = some (.invokevirtual 101, 3) := mvDec_of cd255 (by decide +kernel)
theorem dw790 : mvDec 255 790 = some (.if_icmp .eq 236, 3) := mvDec_of cd255 (by decide +kernel)
theorem dw793 : mvDec 255 793 = some (.iconst 0, 1) := mvDec_of cd255 (by decide +kernel)
theorem dw794 : mvDec 255 794 = some (.ireturn, 1) := mvDec_of cd255 (by decide +kernel)
theorem dw795 : mvDec 255 795 = some (.aload_n 1, 1) := mvDec_of cd255 (by decide +kernel)
theorem dw796 : mvDec 255 796 = some (.invokevirtual 102, 3) := mvDec_of cd255 (by decide +kernel)
theorem dw799 : mvDec 255 799 = some (.aload_n 2, 1) := mvDec_of cd255 (by decide +kernel)
theorem dw800 : mvDec 255 800 = some (.invokevirtual 105, 3) := mvDec_of cd255 (by decide +kernel)
theorem dw803 : mvDec 255 803 = some (.if_icmp .eq 223, 3) := mvDec_of cd255 (by decide +kernel)
theorem dw806 : mvDec 255 806 = some (.iconst 0, 1) := mvDec_of cd255 (by decide +kernel)
theorem dw807 : mvDec 255 807 = some (.ireturn, 1) := mvDec_of cd255 (by decide +kernel)
theorem dw808 : mvDec 255 808 = some (.aload_n 1, 1) := mvDec_of cd255 (by decide +kernel)
theorem dw809 : mvDec 255 809 = some (.invokevirtual 106, 3) := mvDec_of cd255 (by decide +kernel)
theorem dw812 : mvDec 255 812 = some (.aload_n 2, 1) := mvDec_of cd255 (by decide +kernel)
theorem dw813 : mvDec 255 813 = some (.invokevirtual 109, 3) := mvDec_of cd255 (by decide +kernel)
theorem dw816 : mvDec 255 816 = some (.if_icmp .eq 210, 3) := mvDec_of cd255 (by decide +kernel)
theorem dw819 : mvDec 255 819 = some (.iconst 0, 1) := mvDec_of cd255 (by decide +kernel)
theorem dw820 : mvDec 255 820 = some (.ireturn, 1) := mvDec_of cd255 (by decide +kernel)
theorem dw821 : mvDec 255 821 = some (.aload_n 1, 1) := mvDec_of cd255 (by decide +kernel)
theorem dw822 : mvDec 255 822 = some (.aload_n 0, 1) := mvDec_of cd255 (by decide +kernel)
theorem dw823 : mvDec 255 823 = some (.iload_n 3, 1) := mvDec_of cd255 (by decide +kernel)
theorem dw824 : mvDec 255 824 = some (.iconst 1, 1) := mvDec_of cd255 (by decide +kernel)
theorem dw825 : mvDec 255 825 = some (.iadd, 1) := mvDec_of cd255 (by decide +kernel)
theorem dw826 : mvDec 255 826 = some (.iaload, 1) := mvDec_of cd255 (by decide +kernel)
theorem dw827 : mvDec 255 827 = some (.aload_n 0, 1) := mvDec_of cd255 (by decide +kernel)
theorem dw828 : mvDec 255 828 = some (.iload_n 3, 1) := mvDec_of cd255 (by decide +kernel)
theorem dw829 : mvDec 255 829 = some (.iconst 2, 1) := mvDec_of cd255 (by decide +kernel)
theorem dw830 : mvDec 255 830 = some (.iadd, 1) := mvDec_of cd255 (by decide +kernel)
theorem dw831 : mvDec 255 831 = some (.iaload, 1) := mvDec_of cd255 (by decide +kernel)
theorem dw832 : mvDec 255 832 = some (.aload_n 0, 1) := mvDec_of cd255 (by decide +kernel)
theorem dw833 : mvDec 255 833 = some (.iload_n 3, 1) := mvDec_of cd255 (by decide +kernel)
theorem dw834 : mvDec 255 834 = some (.iconst 3, 1) := mvDec_of cd255 (by decide +kernel)
theorem dw835 : mvDec 255 835 = some (.iadd, 1) := mvDec_of cd255 (by decide +kernel)
theorem dw836 : mvDec 255 836 = some (.iaload, 1) := mvDec_of cd255 (by decide +kernel)
theorem dw837 : mvDec 255 837 = some (.invokevirtual 110, 3) := mvDec_of cd255 (by decide +kernel)
theorem dw840 : mvDec 255 840 = some (.aload_n 2, 1) := mvDec_of cd255 (by decide +kernel)
theorem dw841 : mvDec 255 841 = some (.aload_n 0, 1) := mvDec_of cd255 (by decide +kernel)
theorem dw842 : mvDec 255 842 = some (.iload_n 3, 1) := mvDec_of cd255 (by decide +kernel)
theorem dw843 : mvDec 255 843 = some (.iconst 1, 1) := mvDec_of cd255 (by decide +kernel)
theorem dw844 : mvDec 255 844 = some (.iadd, 1) := mvDec_of cd255 (by decide +kernel)
theorem dw845 : mvDec 255 845 = some (.iaload, 1) := mvDec_of cd255 (by decide +kernel)
theorem dw846 : mvDec 255 846 = some (.aload_n 0, 1) := mvDec_of cd255 (by decide +kernel)
theorem dw847 : mvDec 255 847 = some (.iload_n 3, 1) := mvDec_of cd255 (by decide +kernel)
theorem dw848 : mvDec 255 848 = some (.iconst 2, 1) := mvDec_of cd255 (by decide +kernel)
theorem dw849 : mvDec 255 849 = some (.iadd, 1) := mvDec_of cd255 (by decide +kernel)
theorem dw850 : mvDec 255 850 = some (.iaload, 1) := mvDec_of cd255 (by decide +kernel)
theorem dw851 : mvDec 255 851 = some (.aload_n 0, 1) := mvDec_of cd255 (by decide +kernel)
theorem dw852 : mvDec 255 852 = some (.iload_n 3, 1) := mvDec_of cd255 (by decide +kernel)
theorem dw853 : mvDec 255 853 = some (.iconst 3, 1) := mvDec_of cd255 (by decide +kernel)
theorem dw854 : mvDec 255 854 = some (.iadd, 1) := mvDec_of cd255 (by decide +kernel)
theorem dw855 : mvDec 255 855 = some (.iaload, 1) := mvDec_of cd255 (by decide +kernel)
theorem dw856 : mvDec 255 856 = some (.invokevirtual 113, 3) := mvDec_of cd255 (by decide +kernel)
theorem dw859 : mvDec 255 859 = some (.if_icmp .eq 167, 3) := mvDec_of cd255 (by decide +kernel)
theorem dw862 : mvDec 255 862 = some (.iconst 0, 1) := mvDec_of cd255 (by decide +kernel)
theorem dw863 : mvDec 255 863 = some (.ireturn, 1) := mvDec_of cd255 (by decide +kernel)
theorem dw864 : mvDec 255 864 = some (.aload_n 1, 1) := mvDec_of cd255 (by decide +kernel)
theorem dw865 : mvDec 255 865 = some (.aload_n 0, 1) := mvDec_of cd255 (by decide +kernel)
theorem dw866 : mvDec 255 866 = some (.iload_n 3, 1) := mvDec_of cd255 (by decide +kernel)
theorem dw867 : mvDec 255 867 = some (.iconst 1, 1) := mvDec_of cd255 (by decide +kernel)
theorem dw868 : mvDec 255 868 = some (.iadd, 1) := mvDec_of cd255 (by decide +kernel)
theorem dw869 : mvDec 255 869 = some (.iaload, 1) := mvDec_of cd255 (by decide +kernel)
theorem dw870 : mvDec 255 870 = some (.invokevirtual 114, 3) := mvDec_of cd255 (by decide +kernel)
theorem dw873 : mvDec 255 873 = some (.aload_n 2, 1) := mvDec_of cd255 (by decide +kernel)
theorem dw874 : mvDec 255 874 = some (.aload_n 0, 1) := mvDec_of cd255 (by decide +kernel)
theorem dw875 : mvDec 255 875 = some (.iload_n 3, 1) := mvDec_of cd255 (by decide +kernel)
theorem dw876 : mvDec 255 876 = some (.iconst 1, 1) := mvDec_of cd255 (by decide +kernel)
theorem dw877 : mvDec 255 877 = some (.iadd, 1) := mvDec_of cd255 (by decide +kernel)
theorem dw878 : mvDec 255 878 = some (.iaload, 1) := mvDec_of cd255 (by decide +kernel)
theorem dw879 : mvDec 255 879 = some (.invokevirtual 117, 3) := mvDec_of cd255 (by decide +kernel)
theorem dw882 : mvDec 255 882 = some (.if_icmp .eq 144, 3) := mvDec_of cd255 (by decide +kernel)
theorem dw885 : mvDec 255 885 = some (.iconst 0, 1) := mvDec_of cd255 (by decide +kernel)
theorem dw886 : mvDec 255 886 = some (.ireturn, 1) := mvDec_of cd255 (by decide +kernel)
theorem dw887 : mvDec 255 887 = some (.aload_n 1, 1) := mvDec_of cd255 (by decide +kernel)
theorem dw888 : mvDec 255 888 = some (.aload_n 0, 1) := mvDec_of cd255 (by decide +kernel)
theorem dw889 : mvDec 255 889 = some (.iload_n 3, 1) := mvDec_of cd255 (by decide +kernel)
theorem dw890 : mvDec 255 890 = some (.iconst 1, 1) := mvDec_of cd255 (by decide +kernel)
theorem dw891 : mvDec 255 891 = some (.iadd, 1) := mvDec_of cd255 (by decide +kernel)
theorem dw892 : mvDec 255 892 = some (.iaload, 1) := mvDec_of cd255 (by decide +kernel)
theorem dw893 : mvDec 255 893 = some (.invokevirtual 118, 3) := mvDec_of cd255 (by decide +kernel)
theorem dw896 : mvDec 255 896 = some (.aload_n 2, 1) := mvDec_of cd255 (by decide +kernel)
theorem dw897 : mvDec 255 897 = some (.aload_n 0, 1) := mvDec_of cd255 (by decide +kernel)
theorem dw898 : mvDec 255 898 = some (.iload_n 3, 1) := mvDec_of cd255 (by decide +kernel)
theorem dw899 : mvDec 255 899 = some (.iconst 1, 1) := mvDec_of cd255 (by decide +kernel)
theorem dw900 : mvDec 255 900 = some (.iadd, 1) := mvDec_of cd255 (by decide +kernel)
theorem dw901 : mvDec 255 901 = some (.iaload, 1) := mvDec_of cd255 (by decide +kernel)
theorem dw902 : mvDec 255 902 = some (.invokevirtual 121, 3) := mvDec_of cd255 (by decide +kernel)
theorem dw905 : mvDec 255 905 = some (.if_icmp .eq 121, 3) := mvDec_of cd255 (by decide +kernel)
theorem dw908 : mvDec 255 908 = some (.iconst 0, 1) := mvDec_of cd255 (by decide +kernel)
theorem dw909 : mvDec 255 909 = some (.ireturn, 1) := mvDec_of cd255 (by decide +kernel)
theorem dw910 : mvDec 255 910 = some (.aload_n 1, 1) := mvDec_of cd255 (by decide +kernel)
theorem dw911 : mvDec 255 911 = some (.aload_n 0, 1) := mvDec_of cd255 (by decide +kernel)
theorem dw912 : mvDec 255 912 = some (.iload_n 3, 1) := mvDec_of cd255 (by decide +kernel)
theorem dw913 : mvDec 255 913 = some (.iconst 1, 1) := mvDec_of cd255 (by decide +kernel)
theorem dw914 : mvDec 255 914 = some (.iadd, 1) := mvDec_of cd255 (by decide +kernel)
theorem dw915 : mvDec 255 915 = some (.iaload, 1) := mvDec_of cd255 (by decide +kernel)
theorem dw916 : mvDec 255 916 = some (.invokevirtual 122, 3) := mvDec_of cd255 (by decide +kernel)
theorem dw919 : mvDec 255 919 = some (.aload_n 2, 1) := mvDec_of cd255 (by decide +kernel)
theorem dw920 : mvDec 255 920 = some (.aload_n 0, 1) := mvDec_of cd255 (by decide +kernel)
theorem dw921 : mvDec 255 921 = some (.iload_n 3, 1) := mvDec_of cd255 (by decide +kernel)
theorem dw922 : mvDec 255 922 = some (.iconst 1, 1) := mvDec_of cd255 (by decide +kernel)
theorem dw923 : mvDec 255 923 = some (.iadd, 1) := mvDec_of cd255 (by decide +kernel)
theorem dw924 : mvDec 255 924 = some (.iaload, 1) := mvDec_of cd255 (by decide +kernel)
theorem dw925 : mvDec 255 925 = some (.invokevirtual 125, 3) := mvDec_of cd255 (by decide +kernel)
theorem dw928 : mvDec 255 928 = some (.if_icmp .eq 98, 3) := mvDec_of cd255 (by decide +kernel)
theorem dw931 : mvDec 255 931 = some (.iconst 0, 1) := mvDec_of cd255 (by decide +kernel)
theorem dw932 : mvDec 255 932 = some (.ireturn, 1) := mvDec_of cd255 (by decide +kernel)
theorem dw933 : mvDec 255 933 = some (.aload_n 1, 1) := mvDec_of cd255 (by decide +kernel)
theorem dw934 : mvDec 255 934 = some (.aload_n 0, 1) := mvDec_of cd255 (by decide +kernel)
theorem dw935 : mvDec 255 935 = some (.iload_n 3, 1) := mvDec_of cd255 (by decide +kernel)
theorem dw936 : mvDec 255 936 = some (.iconst 1, 1) := mvDec_of cd255 (by decide +kernel)
theorem dw937 : mvDec 255 937 = some (.iadd, 1) := mvDec_of cd255 (by decide +kernel)
theorem dw938 : mvDec 255 938 = some (.iaload, 1) := mvDec_of cd255 (by decide +kernel)
theorem dw939 : mvDec 255 939 = some (.aload_n 0, 1) := mvDec_of cd255 (by decide +kernel)
theorem dw940 : mvDec 255 940 = some (.iload_n 3, 1) := mvDec_of cd255 (by decide +kernel)
theorem dw941 : mvDec 255 941 = some (.iconst 2, 1) := mvDec_of cd255 (by decide +kernel)
theorem dw942 : mvDec 255 942 = some (.iadd, 1) := mvDec_of cd255 (by decide +kernel)
theorem dw943 : mvDec 255 943 = some (.iaload, 1) := mvDec_of cd255 (by decide +kernel)
theorem dw944 : mvDec 255 944 = some (.invokevirtual 126, 3) := mvDec_of cd255 (by decide +kernel)
theorem dw947 : mvDec 255 947 = some (.aload_n 2, 1) := mvDec_of cd255 (by decide +kernel)
theorem dw948 : mvDec 255 948 = some (.aload_n 0, 1) := mvDec_of cd255 (by decide +kernel)
theorem dw949 : mvDec 255 949 = some (.iload_n 3, 1) := mvDec_of cd255 (by decide +kernel)
theorem dw950 : mvDec 255 950 = some (.iconst 1, 1) := mvDec_of cd255 (by decide +kernel)
theorem dw951 : mvDec 255 951 = some (.iadd, 1) := mvDec_of cd255 (by decide +kernel)
theorem dw952 : mvDec 255 952 = some (.iaload, 1) := mvDec_of cd255 (by decide +kernel)
theorem dw953 : mvDec 255 953 = some (.aload_n 0, 1) := mvDec_of cd255 (by decide +kernel)
theorem dw954 : mvDec 255 954 = some (.iload_n 3, 1) := mvDec_of cd255 (by decide +kernel)
theorem dw955 : mvDec 255 955 = some (.iconst 2, 1) := mvDec_of cd255 (by decide +kernel)
theorem dw956 : mvDec 255 956 = some (.iadd, 1) := mvDec_of cd255 (by decide +kernel)
theorem dw957 : mvDec 255 957 = some (.iaload, 1) := mvDec_of cd255 (by decide +kernel)
theorem dw958 : mvDec 255 958 = some (.invokevirtual 129, 3) := mvDec_of cd255 (by decide +kernel)
theorem dw961 : mvDec 255 961 = some (.if_icmp .eq 65, 3) := mvDec_of cd255 (by decide +kernel)
theorem dw964 : mvDec 255 964 = some (.iconst 0, 1) := mvDec_of cd255 (by decide +kernel)
theorem dw965 : mvDec 255 965 = some (.ireturn, 1) := mvDec_of cd255 (by decide +kernel)
theorem dw966 : mvDec 255 966 = some (.aload_n 1, 1) := mvDec_of cd255 (by decide +kernel)
theorem dw967 : mvDec 255 967 = some (.aload_n 0, 1) := mvDec_of cd255 (by decide +kernel)
theorem dw968 : mvDec 255 968 = some (.iload_n 3, 1) := mvDec_of cd255 (by decide +kernel)
theorem dw969 : mvDec 255 969 = some (.iconst 1, 1) := mvDec_of cd255 (by decide +kernel)
theorem dw970 : mvDec 255 970 = some (.iadd, 1) := mvDec_of cd255 (by decide +kernel)
theorem dw971 : mvDec 255 971 = some (.iaload, 1) := mvDec_of cd255 (by decide +kernel)
theorem dw972 : mvDec 255 972 = some (.invokevirtual 130, 3) := mvDec_of cd255 (by decide +kernel)
theorem dw975 : mvDec 255 975 = some (.aload_n 2, 1) := mvDec_of cd255 (by decide +kernel)
theorem dw976 : mvDec 255 976 = some (.aload_n 0, 1) := mvDec_of cd255 (by decide +kernel)
theorem dw977 : mvDec 255 977 = some (.iload_n 3, 1) := mvDec_of cd255 (by decide +kernel)
theorem dw978 : mvDec 255 978 = some (.iconst 1, 1) := mvDec_of cd255 (by decide +kernel)
theorem dw979 : mvDec 255 979 = some (.iadd, 1) := mvDec_of cd255 (by decide +kernel)
theorem dw980 : mvDec 255 980 = some (.iaload, 1) := mvDec_of cd255 (by decide +kernel)
theorem dw981 : mvDec 255 981 = some (.invokevirtual 133, 3) := mvDec_of cd255 (by decide +kernel)
theorem dw984 : mvDec 255 984 = some (.if_icmp .eq 42, 3) := mvDec_of cd255 (by decide +kernel)
theorem dw987 : mvDec 255 987 = some (.iconst 0, 1) := mvDec_of cd255 (by decide +kernel)
theorem dw988 : mvDec 255 988 = some (.ireturn, 1) := mvDec_of cd255 (by decide +kernel)
theorem dw989 : mvDec 255 989 = some (.aload_n 1, 1) := mvDec_of cd255 (by decide +kernel)
theorem dw990 : mvDec 255 990 = some (.aload_n 0, 1) := mvDec_of cd255 (by decide +kernel)
theorem dw991 : mvDec 255 991 = some (.iload_n 3, 1) := mvDec_of cd255 (by decide +kernel)
theorem dw992 : mvDec 255 992 = some (.iconst 1, 1) := mvDec_of cd255 (by decide +kernel)
theorem dw993 : mvDec 255 993 = some (.iadd, 1) := mvDec_of cd255 (by decide +kernel)
theorem dw994 : mvDec 255 994 = some (.iaload, 1) := mvDec_of cd255 (by decide +kernel)
theorem dw995 : mvDec 255 995 = some (.invokevirtual 134, 3) := mvDec_of cd255 (by decide +kernel)
theorem dw998 : mvDec 255 998 = some (.aload_n 2, 1) := mvDec_of cd255 (by decide +kernel)
theorem dw999 : mvDec 255 999 = some (.aload_n 0, 1) := mvDec_of cd255 (by decide +kernel)
theorem dw1000 : mvDec 255 1000 = some (.iload_n 3, 1) := mvDec_of cd255 (by decide +kernel)
theorem dw1001 : mvDec 255 1001 = some (.iconst 1, 1) := mvDec_of cd255 (by decide +kernel)
theorem dw1002 : mvDec 255 1002 = some (.iadd, 1) := mvDec_of cd255 (by decide +kernel)
theorem dw1003 : mvDec 255 1003 = some (.iaload, 1) := mvDec_of cd255 (by decide +kernel)
theorem dw1004 : mvDec 255 1004 = some (.invokevirtual 137, 3) := mvDec_of cd255 (by decide +kernel)
theorem dw1007 : mvDec 255 1007 = some (.if_icmp .eq 19, 3) := mvDec_of cd255 (by decide +kernel)
theorem dw1010 : mvDec 255 1010 = some (.iconst 0, 1) := mvDec_of cd255 (by decide +kernel)
theorem dw1011 : mvDec 255 1011 = some (.ireturn, 1) := mvDec_of cd255 (by decide +kernel)
theorem dw1012 : mvDec 255 1012 = some (.aload_n 1, 1) := mvDec_of cd255 (by decide +kernel)
theorem dw1013 : mvDec 255 1013 = some (.invokevirtual 138, 3) := mvDec_of cd255 (by decide +kernel)
theorem dw1016 : mvDec 255 1016 = some (.aload_n 2, 1) := mvDec_of cd255 (by decide +kernel)
theorem dw1017 : mvDec 255 1017 = some (.invokevirtual 142, 3) := mvDec_of cd255 (by decide +kernel)
theorem dw1020 : mvDec 255 1020 = some (.lcmp, 1) := mvDec_of cd255 (by decide +kernel)
theorem dw1021 : mvDec 255 1021 = some (.ifCond .eq 5, 3) := mvDec_of cd255 (by decide +kernel)
theorem dw1024 : mvDec 255 1024 = some (.iconst 0, 1) := mvDec_of cd255 (by decide +kernel)
theorem dw1025 : mvDec 255 1025 = some (.ireturn, 1) := mvDec_of cd255 (by decide +kernel)
theorem dw1026 : mvDec 255 1026 = some (.iinc 3 5, 3) := mvDec_of cd255 (by decide +kernel)
theorem dw1029 : mvDec 255 1029 = some (.goto (-1011), 3) := mvDec_of cd255 (by decide +kernel)
theorem dw1032 : mvDec 255 1032 = some (.iconst 1, 1) := mvDec_of cd255 (by decide +kernel)
theorem dw1033 : mvDec 255 1033 = some (.ireturn, 1) := mvDec_of cd255 (by decide +kernel)
/-! the law: a call -/
abbrev lwL (i : Int) : mvL := [some (mvR 2), some (mvR 3), some (mvR 68), some (mvI i)]
def lwQ : Option mvV → mvS → Prop := fun r σ' => r = some (mvI 1) ∧ σ'.1 = 97
abbrev KCs (sw : Bool) (h : Nat → Int → Int) (R : Int × Sta) : Int → (Nat → Int → Int) → Prop := fun x h' => x = R.1 ∧ FrC h h' ∧ InvC sw h' R.2
abbrev KMs (h : Nat → Int → Int) (R : Int × Sta) : Int → (Nat → Int → Int) → Prop := fun x h' => x = R.1 ∧ FrM h h' ∧ InvM h' R.2
theorem lcmp_self (x : Int) : mvLcmp x x = 0 := by
  unfold mvLcmp lg_cmp
  simp
theorem lw_arg {pc : Nat} {i c Ls : Int} {s2 : Int → Int} {S : List mvV} {g : Nat → Nat → Nat} {h : Nat → Int → Int} {Q : Option mvV → mvS → Prop} (d1 : mvDec 255 pc = some (.aload_n 0, 1)) (d2 : mvDec 255 (pc + 1) = some (.iload_n 3, 1)) (d3 : mvDec 255 (pc + 2) = some (.iconst c, 1)) (d4 : mvDec 255 (pc + 3) = some (.iadd, 1)) (d5 : mvDec 255 (pc + 4) = some (.iaload, 1)) (c0 : 1 ≤ c ∧ c ≤ 4) (B : (0 ≤ i ∧ i + 4 < Ls ∧ Ls ≤ 2560) ∧ s2 (-1) = Ls) (hs : h 2 = s2) (kk : Rch 255 (pc + 5) (lwL i) (mvI (s2 (i + c)) :: S) (97, g, h) Q) : Rch 255 pc (lwL i) S (97, g, h) Q := by
  obtain ⟨⟨i0, i1, i2⟩, hL⟩ := B
  refine rc_aload_n mq255 d1 rfl ?_
  refine rc_iload_n mq255 d2 rfl ?_
  refine rc_iconst mq255 d3 (by omega) ?_
  refine rc_iadd mq255 d4 ?_
  rw [mwi (z := i + c) (by omega) (by omega)]
  refine rc_ialdS mq255 d5 (by omega) (by rw [hs, hL]; omega) ?_
  rw [hs]
  exact kk
/-- what goes on after a call -/
abbrev lwN (i : Int) (s2 : Int → Int) : Prop := ∀ (sw : Bool) (g : Nat → Nat → Nat) (h : Nat → Int → Int) (A : Sta), Gok sw g → StP A → InvC sw h A → InvM h A → h 2 = s2 → Rch 255 1026 (lwL i) [] (97, g, h) lwQ
section LW
variable {sw : Bool} {g : Nat → Nat → Nat} {h : Nat → Int → Int} {A : Sta} {i Ls : Int} {s2 : Int → Int}
theorem lw_0 (hG : Gok sw g) (P : StP A) (I : InvC sw h A) (M : InvM h A) (hs : h 2 = s2) (B : (0 ≤ i ∧ i + 4 < Ls ∧ Ls ≤ 2560) ∧ s2 (-1) = Ls) (H32 : ∀ k, mv32 (s2 k)) (nx : lwN i s2) : Rch 255 172 (lwL i) [] (97, g, h) lwQ := by
  refine rc_aload_n mq255 dw172 rfl ?_
  refine lw_arg (c := 1) dw173 dw174 dw175 dw176 dw177 (by omega) B hs ?_
  refine rc_callV [mvR 3, mvI (s2 (i + 1))] [] [some (mvR 3), some (mvI (s2 (i + 1)))] mq255 dw178 lk_11_13 mq67 (by decide) rfl rfl (Nat.le_of_ble_eq_true rfl) (Nat.le_of_ble_eq_true rfl) (by decide) rfl mis3 rfl (ri_bind (RC_letter_spec (K := KCs sw h (fLetter A (s2 (i + 1)))) hG P I (x := (s2 (i + 1))) (k := (fun h' F I' => ⟨rfl, F, I'⟩))) (fun x1 h1 Z => ?_))
  obtain ⟨e1, F1, I1⟩ := Z
  have hs1 : h1 2 = s2 := (F1 2 (by omega)).trans hs
  have N := M.keep F1
  show Rch 255 181 (lwL i) [mvI x1] (97, _, h1) lwQ
  refine rc_aload_n mq255 dw181 rfl ?_
  refine lw_arg (c := 1) dw182 dw183 dw184 dw185 dw186 (by omega) B hs1 ?_
  refine rc_callV [mvR 68, mvI (s2 (i + 1))] [mvI x1] [some (mvR 68), some (mvI (s2 (i + 1)))] mq255 dw187 lk_11_17 mq111 (by decide) rfl rfl (Nat.le_of_ble_eq_true rfl) (Nat.le_of_ble_eq_true rfl) (by decide) rfl mis68 rfl (ri_bind (MD_letter_spec (K := KMs h1 (fLetter A (s2 (i + 1)))) hG P N (x := (s2 (i + 1)))  (k := (fun h' F I' => ⟨rfl, F, I'⟩))) (fun x2 h2 Z => ?_))
  obtain ⟨e2, F2, I2⟩ := Z
  show Rch 255 190 (lwL i) [mvI x2, mvI x1] (97, _, h2) lwQ
  rw [e1, e2]
  exact rc_icmp_eq (t := 1026) mq255 dw190 rfl (fun _ => nx _ _ h2 _ hG (fLetter_P P) (I1.keep F2) I2 ((F2 2 (by omega)).trans hs1)) (fun z => absurd rfl z)
theorem lw_1 (hG : Gok sw g) (P : StP A) (I : InvC sw h A) (M : InvM h A) (hs : h 2 = s2) (B : (0 ≤ i ∧ i + 4 < Ls ∧ Ls ≤ 2560) ∧ s2 (-1) = Ls) (H32 : ∀ k, mv32 (s2 k)) (nx : lwN i s2) : Rch 255 195 (lwL i) [] (97, g, h) lwQ := by
  refine rc_aload_n mq255 dw195 rfl ?_
  refine rc_callV [mvR 3] [] [some (mvR 3), none] mq255 dw196 lk_11_18 mq0 (by decide) rfl rfl (Nat.le_of_ble_eq_true rfl) (Nat.le_of_ble_eq_true rfl) (by decide) rfl mis3 rfl (ri_bind (RC_blank_spec (K := KCs sw h (fBlank A)) hG P I  (k := (fun h' F I' => ⟨rfl, F, I'⟩))) (fun x1 h1 Z => ?_))
  obtain ⟨e1, F1, I1⟩ := Z
  have hs1 : h1 2 = s2 := (F1 2 (by omega)).trans hs
  have N := M.keep F1
  show Rch 255 199 (lwL i) [mvI x1] (97, _, h1) lwQ
  refine rc_aload_n mq255 dw199 rfl ?_
  refine rc_callV [mvR 68] [mvI x1] [some (mvR 68), none] mq255 dw200 lk_11_22 mq39 (by decide) rfl rfl (Nat.le_of_ble_eq_true rfl) (Nat.le_of_ble_eq_true rfl) (by decide) rfl mis68 rfl (ri_bind (MD_blank_spec (K := KMs h1 (fBlank A)) hG P N   (k := (fun h' F I' => ⟨rfl, F, I'⟩))) (fun x2 h2 Z => ?_))
  obtain ⟨e2, F2, I2⟩ := Z
  show Rch 255 203 (lwL i) [mvI x2, mvI x1] (97, _, h2) lwQ
  rw [e1, e2]
  exact rc_icmp_eq (t := 1026) mq255 dw203 rfl (fun _ => nx _ _ h2 _ hG (fBlank_P P) (I1.keep F2) I2 ((F2 2 (by omega)).trans hs1)) (fun z => absurd rfl z)
theorem lw_2 (hG : Gok sw g) (P : StP A) (I : InvC sw h A) (M : InvM h A) (hs : h 2 = s2) (B : (0 ≤ i ∧ i + 4 < Ls ∧ Ls ≤ 2560) ∧ s2 (-1) = Ls) (H32 : ∀ k, mv32 (s2 k)) (nx : lwN i s2) : Rch 255 208 (lwL i) [] (97, g, h) lwQ := by
  refine rc_aload_n mq255 dw208 rfl ?_
  refine rc_callV [mvR 3] [] [some (mvR 3)] mq255 dw209 lk_11_23 mq140 (by decide) rfl rfl (Nat.le_of_ble_eq_true rfl) (Nat.le_of_ble_eq_true rfl) (by decide) rfl mis3 rfl (ri_bind (RC_fault_spec (K := KCs sw h (fFault A)) hG P I  (k := (fun h' F I' => ⟨rfl, F, I'⟩))) (fun x1 h1 Z => ?_))
  obtain ⟨e1, F1, I1⟩ := Z
  have hs1 : h1 2 = s2 := (F1 2 (by omega)).trans hs
  have N := M.keep F1
  show Rch 255 212 (lwL i) [mvI x1] (97, _, h1) lwQ
  refine rc_aload_n mq255 dw212 rfl ?_
  refine rc_callV [mvR 68] [mvI x1] [some (mvR 68)] mq255 dw213 lk_11_26 mq188 (by decide) rfl rfl (Nat.le_of_ble_eq_true rfl) (Nat.le_of_ble_eq_true rfl) (by decide) rfl mis68 rfl (ri_bind (MD_fault_spec (K := KMs h1 (fFault A)) hG P N   (k := (fun h' F I' => ⟨rfl, F, I'⟩))) (fun x2 h2 Z => ?_))
  obtain ⟨e2, F2, I2⟩ := Z
  show Rch 255 216 (lwL i) [mvI x2, mvI x1] (97, _, h2) lwQ
  rw [e1, e2]
  exact rc_icmp_eq (t := 1026) mq255 dw216 rfl (fun _ => nx _ _ h2 _ hG (P) (I1.keep F2) I2 ((F2 2 (by omega)).trans hs1)) (fun z => absurd rfl z)
theorem lw_3 (hG : Gok sw g) (P : StP A) (I : InvC sw h A) (M : InvM h A) (hs : h 2 = s2) (B : (0 ≤ i ∧ i + 4 < Ls ∧ Ls ≤ 2560) ∧ s2 (-1) = Ls) (H32 : ∀ k, mv32 (s2 k)) (nx : lwN i s2) : Rch 255 221 (lwL i) [] (97, g, h) lwQ := by
  refine rc_aload_n mq255 dw221 rfl ?_
  refine rc_callV [mvR 3] [] [some (mvR 3), none] mq255 dw222 lk_11_27 mq216 (by decide) rfl rfl (Nat.le_of_ble_eq_true rfl) (Nat.le_of_ble_eq_true rfl) (by decide) rfl mis3 rfl (rc_mono (RC_run_spec (K := fun x g' h' => ∃ sw', Gok sw' g' ∧ x = (fRun A).1 ∧ FrC h h' ∧ InvC sw' h' (fRun A).2) hG P I (fun sw' g' h' G F I' => ⟨sw', G, rfl, F, I'⟩)) ?_)
  rintro r σ' ⟨x1, g1, h1, rfl, rfl, sw1, hG1, e1, F1, I1⟩
  have hs1 : h1 2 = s2 := (F1 2 (by omega)).trans hs
  have N := M.keep F1
  show Rch 255 225 (lwL i) [mvI x1] (97, _, h1) lwQ
  refine rc_aload_n mq255 dw225 rfl ?_
  refine rc_callV [mvR 68] [mvI x1] [some (mvR 68), none, none] mq255 dw226 lk_11_30 mq210 (by decide) rfl rfl (Nat.le_of_ble_eq_true rfl) (Nat.le_of_ble_eq_true rfl) (by decide) rfl mis68 rfl (ri_bind (MD_run_spec2 (K := KMs h1 (fRun A)) hG1 P N   (k := (fun h' F I' => ⟨rfl, F, I'⟩))) (fun x2 h2 Z => ?_))
  obtain ⟨e2, F2, I2⟩ := Z
  show Rch 255 229 (lwL i) [mvI x2, mvI x1] (97, _, h2) lwQ
  rw [e1, e2]
  exact rc_icmp_eq (t := 1026) mq255 dw229 rfl (fun _ => nx _ _ h2 _ hG1 (fRun_P P) (I1.keep F2) I2 ((F2 2 (by omega)).trans hs1)) (fun z => absurd rfl z)
theorem lw_4 (hG : Gok sw g) (P : StP A) (I : InvC sw h A) (M : InvM h A) (hs : h 2 = s2) (B : (0 ≤ i ∧ i + 4 < Ls ∧ Ls ≤ 2560) ∧ s2 (-1) = Ls) (H32 : ∀ k, mv32 (s2 k)) (nx : lwN i s2) : Rch 255 234 (lwL i) [] (97, g, h) lwQ := by
  refine rc_aload_n mq255 dw234 rfl ?_
  refine lw_arg (c := 1) dw235 dw236 dw237 dw238 dw239 (by omega) B hs ?_
  refine lw_arg (c := 2) dw240 dw241 dw242 dw243 dw244 (by omega) B hs ?_
  refine rc_callV [mvR 3, mvI (s2 (i + 1)), mvI (s2 (i + 2))] [] [some (mvR 3), some (mvI (s2 (i + 1))), some (mvI (s2 (i + 2)))] mq255 dw245 lk_11_31 mq234 (by decide) rfl rfl (Nat.le_of_ble_eq_true rfl) (Nat.le_of_ble_eq_true rfl) (by decide) rfl mis3 rfl (ri_bind (RC_local_spec (K := KCs sw h (fLocal A (s2 (i + 1)) (s2 (i + 2)))) hG P I (p := (s2 (i + 1))) (v := (s2 (i + 2))) (k := (fun h' F I' => ⟨rfl, F, I'⟩))) (fun x1 h1 Z => ?_))
  obtain ⟨e1, F1, I1⟩ := Z
  have hs1 : h1 2 = s2 := (F1 2 (by omega)).trans hs
  have N := M.keep F1
  show Rch 255 248 (lwL i) [mvI x1] (97, _, h1) lwQ
  refine rc_aload_n mq255 dw248 rfl ?_
  refine lw_arg (c := 1) dw249 dw250 dw251 dw252 dw253 (by omega) B hs1 ?_
  refine lw_arg (c := 2) dw254 dw255 dw256 dw257 dw258 (by omega) B hs1 ?_
  refine rc_callV [mvR 68, mvI (s2 (i + 1)), mvI (s2 (i + 2))] [mvI x1] [some (mvR 68), some (mvI (s2 (i + 1))), some (mvI (s2 (i + 2)))] mq255 dw259 lk_11_35 mq222 (by decide) rfl rfl (Nat.le_of_ble_eq_true rfl) (Nat.le_of_ble_eq_true rfl) (by decide) rfl mis68 rfl (ri_bind (MD_local_spec (K := KMs h1 (fLocal A (s2 (i + 1)) (s2 (i + 2)))) hG P N (p := (s2 (i + 1))) (v := (s2 (i + 2)))  (k := (fun h' F I' => ⟨rfl, F, I'⟩))) (fun x2 h2 Z => ?_))
  obtain ⟨e2, F2, I2⟩ := Z
  show Rch 255 262 (lwL i) [mvI x2, mvI x1] (97, _, h2) lwQ
  rw [e1, e2]
  exact rc_icmp_eq (t := 1026) mq255 dw262 rfl (fun _ => nx _ _ h2 _ hG (fLocal_P P) (I1.keep F2) I2 ((F2 2 (by omega)).trans hs1)) (fun z => absurd rfl z)
theorem lw_5 (hG : Gok sw g) (P : StP A) (I : InvC sw h A) (M : InvM h A) (hs : h 2 = s2) (B : (0 ≤ i ∧ i + 4 < Ls ∧ Ls ≤ 2560) ∧ s2 (-1) = Ls) (H32 : ∀ k, mv32 (s2 k)) (nx : lwN i s2) : Rch 255 267 (lwL i) [] (97, g, h) lwQ := by
  refine rc_aload_n mq255 dw267 rfl ?_
  refine lw_arg (c := 1) dw268 dw269 dw270 dw271 dw272 (by omega) B hs ?_
  refine lw_arg (c := 2) dw273 dw274 dw275 dw276 dw277 (by omega) B hs ?_
  refine rc_callV [mvR 3, mvI (s2 (i + 1)), mvI (s2 (i + 2))] [] [some (mvR 3), some (mvI (s2 (i + 1))), some (mvI (s2 (i + 2)))] mq255 dw278 lk_11_36 mq235 (by decide) rfl rfl (Nat.le_of_ble_eq_true rfl) (Nat.le_of_ble_eq_true rfl) (by decide) rfl mis3 rfl (ri_bind (RC_send_spec (K := KCs sw h (fSend A (s2 (i + 1)) (s2 (i + 2)))) hG P I (p := (s2 (i + 1))) (q := (s2 (i + 2))) (k := (fun h' F I' => ⟨rfl, F, I'⟩))) (fun x1 h1 Z => ?_))
  obtain ⟨e1, F1, I1⟩ := Z
  have hs1 : h1 2 = s2 := (F1 2 (by omega)).trans hs
  have N := M.keep F1
  show Rch 255 281 (lwL i) [mvI x1] (97, _, h1) lwQ
  refine rc_aload_n mq255 dw281 rfl ?_
  refine lw_arg (c := 1) dw282 dw283 dw284 dw285 dw286 (by omega) B hs1 ?_
  refine lw_arg (c := 2) dw287 dw288 dw289 dw290 dw291 (by omega) B hs1 ?_
  refine rc_callV [mvR 68, mvI (s2 (i + 1)), mvI (s2 (i + 2))] [mvI x1] [some (mvR 68), some (mvI (s2 (i + 1))), some (mvI (s2 (i + 2)))] mq255 dw292 lk_11_39 mq223 (by decide) rfl rfl (Nat.le_of_ble_eq_true rfl) (Nat.le_of_ble_eq_true rfl) (by decide) rfl mis68 rfl (ri_bind (MD_send_spec (K := KMs h1 (fSend A (s2 (i + 1)) (s2 (i + 2)))) hG P N (p := (s2 (i + 1))) (q := (s2 (i + 2)))  (k := (fun h' F I' => ⟨rfl, F, I'⟩))) (fun x2 h2 Z => ?_))
  obtain ⟨e2, F2, I2⟩ := Z
  show Rch 255 295 (lwL i) [mvI x2, mvI x1] (97, _, h2) lwQ
  rw [e1, e2]
  exact rc_icmp_eq (t := 1026) mq255 dw295 rfl (fun _ => nx _ _ h2 _ hG (fSend_P P) (I1.keep F2) I2 ((F2 2 (by omega)).trans hs1)) (fun z => absurd rfl z)
theorem lw_6 (hG : Gok sw g) (P : StP A) (I : InvC sw h A) (M : InvM h A) (hs : h 2 = s2) (B : (0 ≤ i ∧ i + 4 < Ls ∧ Ls ≤ 2560) ∧ s2 (-1) = Ls) (H32 : ∀ k, mv32 (s2 k)) (nx : lwN i s2) : Rch 255 300 (lwL i) [] (97, g, h) lwQ := by
  refine rc_aload_n mq255 dw300 rfl ?_
  refine lw_arg (c := 1) dw301 dw302 dw303 dw304 dw305 (by omega) B hs ?_
  refine lw_arg (c := 2) dw306 dw307 dw308 dw309 dw310 (by omega) B hs ?_
  refine rc_callV [mvR 3, mvI (s2 (i + 1)), mvI (s2 (i + 2))] [] [some (mvR 3), some (mvI (s2 (i + 1))), some (mvI (s2 (i + 2)))] mq255 dw311 lk_11_40 mq236 (by decide) rfl rfl (Nat.le_of_ble_eq_true rfl) (Nat.le_of_ble_eq_true rfl) (by decide) rfl mis3 rfl (ri_bind (RC_receive_spec (K := KCs sw h (fRecv A (s2 (i + 1)) (s2 (i + 2)))) hG P I (p := (s2 (i + 1))) (q := (s2 (i + 2))) (k := (fun h' F I' => ⟨rfl, F, I'⟩))) (fun x1 h1 Z => ?_))
  obtain ⟨e1, F1, I1⟩ := Z
  have hs1 : h1 2 = s2 := (F1 2 (by omega)).trans hs
  have N := M.keep F1
  show Rch 255 314 (lwL i) [mvI x1] (97, _, h1) lwQ
  refine rc_aload_n mq255 dw314 rfl ?_
  refine lw_arg (c := 1) dw315 dw316 dw317 dw318 dw319 (by omega) B hs1 ?_
  refine lw_arg (c := 2) dw320 dw321 dw322 dw323 dw324 (by omega) B hs1 ?_
  refine rc_callV [mvR 68, mvI (s2 (i + 1)), mvI (s2 (i + 2))] [mvI x1] [some (mvR 68), some (mvI (s2 (i + 1))), some (mvI (s2 (i + 2)))] mq255 dw325 lk_11_43 mq224 (by decide) rfl rfl (Nat.le_of_ble_eq_true rfl) (Nat.le_of_ble_eq_true rfl) (by decide) rfl mis68 rfl (ri_bind (MD_receive_spec (K := KMs h1 (fRecv A (s2 (i + 1)) (s2 (i + 2)))) hG P N (p := (s2 (i + 1))) (q := (s2 (i + 2)))  (k := (fun h' F I' => ⟨rfl, F, I'⟩))) (fun x2 h2 Z => ?_))
  obtain ⟨e2, F2, I2⟩ := Z
  show Rch 255 328 (lwL i) [mvI x2, mvI x1] (97, _, h2) lwQ
  rw [e1, e2]
  exact rc_icmp_eq (t := 1026) mq255 dw328 rfl (fun _ => nx _ _ h2 _ hG (fRecv_P P) (I1.keep F2) I2 ((F2 2 (by omega)).trans hs1)) (fun z => absurd rfl z)
theorem lw_7 (hG : Gok sw g) (P : StP A) (I : InvC sw h A) (M : InvM h A) (hs : h 2 = s2) (B : (0 ≤ i ∧ i + 4 < Ls ∧ Ls ≤ 2560) ∧ s2 (-1) = Ls) (H32 : ∀ k, mv32 (s2 k)) (nx : lwN i s2) : Rch 255 333 (lwL i) [] (97, g, h) lwQ := by
  refine rc_aload_n mq255 dw333 rfl ?_
  refine lw_arg (c := 1) dw334 dw335 dw336 dw337 dw338 (by omega) B hs ?_
  refine rc_callV [mvR 3, mvI (s2 (i + 1))] [] [some (mvR 3), some (mvI (s2 (i + 1)))] mq255 dw339 lk_11_44 mq217 (by decide) rfl rfl (Nat.le_of_ble_eq_true rfl) (Nat.le_of_ble_eq_true rfl) (by decide) rfl mis3 rfl (ri_bind (RC_back_spec (K := KCs sw h (fBack A (s2 (i + 1)))) hG P I (p := (s2 (i + 1))) (k := (fun h' F I' => ⟨rfl, F, I'⟩))) (fun x1 h1 Z => ?_))
  obtain ⟨e1, F1, I1⟩ := Z
  have hs1 : h1 2 = s2 := (F1 2 (by omega)).trans hs
  have N := M.keep F1
  show Rch 255 342 (lwL i) [mvI x1] (97, _, h1) lwQ
  refine rc_aload_n mq255 dw342 rfl ?_
  refine lw_arg (c := 1) dw343 dw344 dw345 dw346 dw347 (by omega) B hs1 ?_
  refine rc_callV [mvR 68, mvI (s2 (i + 1))] [mvI x1] [some (mvR 68), some (mvI (s2 (i + 1))), none] mq255 dw348 lk_11_47 mq212 (by decide) rfl rfl (Nat.le_of_ble_eq_true rfl) (Nat.le_of_ble_eq_true rfl) (by decide) rfl mis68 rfl (ri_bind (MD_back_spec (K := KMs h1 (fBack A (s2 (i + 1)))) hG P N (p := (s2 (i + 1)))  (k := (fun h' F I' => ⟨rfl, F, I'⟩))) (fun x2 h2 Z => ?_))
  obtain ⟨e2, F2, I2⟩ := Z
  show Rch 255 351 (lwL i) [mvI x2, mvI x1] (97, _, h2) lwQ
  rw [e1, e2]
  exact rc_icmp_eq (t := 1026) mq255 dw351 rfl (fun _ => nx _ _ h2 _ hG (fBack_P P) (I1.keep F2) I2 ((F2 2 (by omega)).trans hs1)) (fun z => absurd rfl z)
theorem lw_8 (hG : Gok sw g) (P : StP A) (I : InvC sw h A) (M : InvM h A) (hs : h 2 = s2) (B : (0 ≤ i ∧ i + 4 < Ls ∧ Ls ≤ 2560) ∧ s2 (-1) = Ls) (H32 : ∀ k, mv32 (s2 k)) (nx : lwN i s2) : Rch 255 356 (lwL i) [] (97, g, h) lwQ := by
  refine rc_aload_n mq255 dw356 rfl ?_
  refine lw_arg (c := 1) dw357 dw358 dw359 dw360 dw361 (by omega) B hs ?_
  refine lw_arg (c := 2) dw362 dw363 dw364 dw365 dw366 (by omega) B hs ?_
  refine lw_arg (c := 3) dw367 dw368 dw369 dw370 dw371 (by omega) B hs ?_
  refine rc_callV [mvR 3, mvI (s2 (i + 1)), mvI (s2 (i + 2)), mvI (s2 (i + 3))] [] [some (mvR 3), some (mvI (s2 (i + 1))), some (mvI (s2 (i + 2))), some (mvI (s2 (i + 3)))] mq255 dw372 lk_11_48 mq141 (by decide) rfl rfl (Nat.le_of_ble_eq_true rfl) (Nat.le_of_ble_eq_true rfl) (by decide) rfl mis3 rfl (ri_bind (RC_event_spec (K := KCs sw h (fEvent A (s2 (i + 1)) (s2 (i + 2)) (s2 (i + 3)))) hG P I (p := (s2 (i + 1))) (m := (s2 (i + 2))) (x := (s2 (i + 3))) (k := (fun h' F I' => ⟨rfl, F, I'⟩))) (fun x1 h1 Z => ?_))
  obtain ⟨e1, F1, I1⟩ := Z
  have hs1 : h1 2 = s2 := (F1 2 (by omega)).trans hs
  have N := M.keep F1
  show Rch 255 375 (lwL i) [mvI x1] (97, _, h1) lwQ
  refine rc_aload_n mq255 dw375 rfl ?_
  refine lw_arg (c := 1) dw376 dw377 dw378 dw379 dw380 (by omega) B hs1 ?_
  refine lw_arg (c := 2) dw381 dw382 dw383 dw384 dw385 (by omega) B hs1 ?_
  refine lw_arg (c := 3) dw386 dw387 dw388 dw389 dw390 (by omega) B hs1 ?_
  refine rc_callV [mvR 68, mvI (s2 (i + 1)), mvI (s2 (i + 2)), mvI (s2 (i + 3))] [mvI x1] [some (mvR 68), some (mvI (s2 (i + 1))), some (mvI (s2 (i + 2))), some (mvI (s2 (i + 3)))] mq255 dw391 lk_11_52 mq190 (by decide) rfl rfl (Nat.le_of_ble_eq_true rfl) (Nat.le_of_ble_eq_true rfl) (by decide) rfl mis68 rfl (ri_bind (MD_event_spec (K := KMs h1 (fEvent A (s2 (i + 1)) (s2 (i + 2)) (s2 (i + 3)))) hG P N (p := (s2 (i + 1))) (m := (s2 (i + 2))) (x := (s2 (i + 3)))  (k := (fun h' F I' => ⟨rfl, F, I'⟩))) (fun x2 h2 Z => ?_))
  obtain ⟨e2, F2, I2⟩ := Z
  show Rch 255 394 (lwL i) [mvI x2, mvI x1] (97, _, h2) lwQ
  rw [e1, e2]
  exact rc_icmp_eq (t := 1026) mq255 dw394 rfl (fun _ => nx _ _ h2 _ hG (fEvent_P P) (I1.keep F2) I2 ((F2 2 (by omega)).trans hs1)) (fun z => absurd rfl z)
theorem lw_9 (hG : Gok sw g) (P : StP A) (I : InvC sw h A) (M : InvM h A) (hs : h 2 = s2) (B : (0 ≤ i ∧ i + 4 < Ls ∧ Ls ≤ 2560) ∧ s2 (-1) = Ls) (H32 : ∀ k, mv32 (s2 k)) (nx : lwN i s2) : Rch 255 399 (lwL i) [] (97, g, h) lwQ := by
  refine rc_aload_n mq255 dw399 rfl ?_
  refine lw_arg (c := 1) dw400 dw401 dw402 dw403 dw404 (by omega) B hs ?_
  refine lw_arg (c := 2) dw405 dw406 dw407 dw408 dw409 (by omega) B hs ?_
  refine lw_arg (c := 3) dw410 dw411 dw412 dw413 dw414 (by omega) B hs ?_
  refine lw_arg (c := 4) dw415 dw416 dw417 dw418 dw419 (by omega) B hs ?_
  refine rc_callV [mvR 3, mvI (s2 (i + 1)), mvI (s2 (i + 2)), mvI (s2 (i + 3)), mvI (s2 (i + 4))] [] [some (mvR 3), some (mvI (s2 (i + 1))), some (mvI (s2 (i + 2))), some (mvI (s2 (i + 3))), some (mvI (s2 (i + 4)))] mq255 dw420 lk_11_53 mq142 (by decide) rfl rfl (Nat.le_of_ble_eq_true rfl) (Nat.le_of_ble_eq_true rfl) (by decide) rfl mis3 rfl (ri_bind (RC_order_spec (K := KCs sw h (fOrder A (s2 (i + 1)) (s2 (i + 2)) (s2 (i + 3)) (s2 (i + 4)))) hG P I (p := (s2 (i + 1))) (i := (s2 (i + 2))) (q := (s2 (i + 3))) (m := (s2 (i + 4))) (k := (fun h' F I' => ⟨rfl, F, I'⟩))) (fun x1 h1 Z => ?_))
  obtain ⟨e1, F1, I1⟩ := Z
  have hs1 : h1 2 = s2 := (F1 2 (by omega)).trans hs
  have N := M.keep F1
  show Rch 255 423 (lwL i) [mvI x1] (97, _, h1) lwQ
  refine rc_aload_n mq255 dw423 rfl ?_
  refine lw_arg (c := 1) dw424 dw425 dw426 dw427 dw428 (by omega) B hs1 ?_
  refine lw_arg (c := 2) dw429 dw430 dw431 dw432 dw433 (by omega) B hs1 ?_
  refine lw_arg (c := 3) dw434 dw435 dw436 dw437 dw438 (by omega) B hs1 ?_
  refine lw_arg (c := 4) dw439 dw440 dw441 dw442 dw443 (by omega) B hs1 ?_
  refine rc_callV [mvR 68, mvI (s2 (i + 1)), mvI (s2 (i + 2)), mvI (s2 (i + 3)), mvI (s2 (i + 4))] [mvI x1] [some (mvR 68), some (mvI (s2 (i + 1))), some (mvI (s2 (i + 2))), some (mvI (s2 (i + 3))), some (mvI (s2 (i + 4)))] mq255 dw444 lk_11_57 mq191 (by decide) rfl rfl (Nat.le_of_ble_eq_true rfl) (Nat.le_of_ble_eq_true rfl) (by decide) rfl mis68 rfl (ri_bind (MD_order_spec (K := KMs h1 (fOrder A (s2 (i + 1)) (s2 (i + 2)) (s2 (i + 3)) (s2 (i + 4)))) hG P N (p := (s2 (i + 1))) (i := (s2 (i + 2))) (q := (s2 (i + 3))) (m := (s2 (i + 4)))  (k := (fun h' F I' => ⟨rfl, F, I'⟩))) (fun x2 h2 Z => ?_))
  obtain ⟨e2, F2, I2⟩ := Z
  show Rch 255 447 (lwL i) [mvI x2, mvI x1] (97, _, h2) lwQ
  rw [e1, e2]
  exact rc_icmp_eq (t := 1026) mq255 dw447 rfl (fun _ => nx _ _ h2 _ hG (fOrder_P P) (I1.keep F2) I2 ((F2 2 (by omega)).trans hs1)) (fun z => absurd rfl z)
theorem lw_10 (hG : Gok sw g) (P : StP A) (I : InvC sw h A) (M : InvM h A) (hs : h 2 = s2) (B : (0 ≤ i ∧ i + 4 < Ls ∧ Ls ≤ 2560) ∧ s2 (-1) = Ls) (H32 : ∀ k, mv32 (s2 k)) (nx : lwN i s2) : Rch 255 452 (lwL i) [] (97, g, h) lwQ := by
  refine rc_aload_n mq255 dw452 rfl ?_
  refine lw_arg (c := 1) dw453 dw454 dw455 dw456 dw457 (by omega) B hs ?_
  refine lw_arg (c := 2) dw458 dw459 dw460 dw461 dw462 (by omega) B hs ?_
  refine rc_callV [mvR 3, mvI (s2 (i + 1)), mvI (s2 (i + 2))] [] [some (mvR 3), some (mvI (s2 (i + 1))), some (mvI (s2 (i + 2)))] mq255 dw463 lk_11_58 mq199 (by decide) rfl rfl (Nat.le_of_ble_eq_true rfl) (Nat.le_of_ble_eq_true rfl) (by decide) rfl mis3 rfl (ri_bind (RC_cut_spec (K := KCs sw h ((aCut A (s2 (i + 1)) (s2 (i + 2)), A))) hG P I (x := (s2 (i + 1))) (y := (s2 (i + 2))) (hx := H32 _) (k := (fun h' F I' => ⟨rfl, F, I'⟩))) (fun x1 h1 Z => ?_))
  obtain ⟨e1, F1, I1⟩ := Z
  have hs1 : h1 2 = s2 := (F1 2 (by omega)).trans hs
  have N := M.keep F1
  show Rch 255 466 (lwL i) [mvI x1] (97, _, h1) lwQ
  refine rc_aload_n mq255 dw466 rfl ?_
  refine lw_arg (c := 1) dw467 dw468 dw469 dw470 dw471 (by omega) B hs1 ?_
  refine lw_arg (c := 2) dw472 dw473 dw474 dw475 dw476 (by omega) B hs1 ?_
  refine rc_callV [mvR 68, mvI (s2 (i + 1)), mvI (s2 (i + 2))] [mvI x1] [some (mvR 68), some (mvI (s2 (i + 1))), some (mvI (s2 (i + 2)))] mq255 dw477 lk_11_61 mq253 (by decide) rfl rfl (Nat.le_of_ble_eq_true rfl) (Nat.le_of_ble_eq_true rfl) (by decide) rfl mis68 rfl (ri_bind (MD_cut_spec (K := KMs h1 ((aCut A (s2 (i + 1)) (s2 (i + 2)), A))) hG P N (x := (s2 (i + 1))) (y := (s2 (i + 2))) (hx := H32 _)  (k := (fun h' F I' => ⟨rfl, F, I'⟩))) (fun x2 h2 Z => ?_))
  obtain ⟨e2, F2, I2⟩ := Z
  show Rch 255 480 (lwL i) [mvI x2, mvI x1] (97, _, h2) lwQ
  rw [e1, e2]
  exact rc_icmp_eq (t := 1026) mq255 dw480 rfl (fun _ => nx _ _ h2 _ hG (P) (I1.keep F2) I2 ((F2 2 (by omega)).trans hs1)) (fun z => absurd rfl z)
theorem lw_11 (hG : Gok sw g) (P : StP A) (I : InvC sw h A) (M : InvM h A) (hs : h 2 = s2) (B : (0 ≤ i ∧ i + 4 < Ls ∧ Ls ≤ 2560) ∧ s2 (-1) = Ls) (H32 : ∀ k, mv32 (s2 k)) (nx : lwN i s2) : Rch 255 485 (lwL i) [] (97, g, h) lwQ := by
  refine rc_aload_n mq255 dw485 rfl ?_
  refine lw_arg (c := 1) dw486 dw487 dw488 dw489 dw490 (by omega) B hs ?_
  refine lw_arg (c := 2) dw491 dw492 dw493 dw494 dw495 (by omega) B hs ?_
  refine rc_callV [mvR 3, mvI (s2 (i + 1)), mvI (s2 (i + 2))] [] [some (mvR 3), some (mvI (s2 (i + 1))), some (mvI (s2 (i + 2)))] mq255 dw496 lk_11_62 mq68 (by decide) rfl rfl (Nat.le_of_ble_eq_true rfl) (Nat.le_of_ble_eq_true rfl) (by decide) rfl mis3 rfl (ri_bind (RC_value_spec (K := KCs sw h ((aValue A (s2 (i + 1)) (s2 (i + 2)), A))) hG P I (x := (s2 (i + 1))) (p := (s2 (i + 2))) (hx := H32 _) (k := (fun h' F I' => ⟨rfl, F, I'⟩))) (fun x1 h1 Z => ?_))
  obtain ⟨e1, F1, I1⟩ := Z
  have hs1 : h1 2 = s2 := (F1 2 (by omega)).trans hs
  have N := M.keep F1
  show Rch 255 499 (lwL i) [mvI x1] (97, _, h1) lwQ
  refine rc_aload_n mq255 dw499 rfl ?_
  refine lw_arg (c := 1) dw500 dw501 dw502 dw503 dw504 (by omega) B hs1 ?_
  refine lw_arg (c := 2) dw505 dw506 dw507 dw508 dw509 (by omega) B hs1 ?_
  refine rc_callV [mvR 68, mvI (s2 (i + 1)), mvI (s2 (i + 2))] [mvI x1] [some (mvR 68), some (mvI (s2 (i + 1))), some (mvI (s2 (i + 2)))] mq255 dw510 lk_11_65 mq165 (by decide) rfl rfl (Nat.le_of_ble_eq_true rfl) (Nat.le_of_ble_eq_true rfl) (by decide) rfl mis68 rfl (ri_bind (MD_value_spec (K := KMs h1 ((aValue A (s2 (i + 1)) (s2 (i + 2)), A))) hG P N (x := (s2 (i + 1))) (p := (s2 (i + 2))) (hx := H32 _)  (k := (fun h' F I' => ⟨rfl, F, I'⟩))) (fun x2 h2 Z => ?_))
  obtain ⟨e2, F2, I2⟩ := Z
  show Rch 255 513 (lwL i) [mvI x2, mvI x1] (97, _, h2) lwQ
  rw [e1, e2]
  exact rc_icmp_eq (t := 1026) mq255 dw513 rfl (fun _ => nx _ _ h2 _ hG (P) (I1.keep F2) I2 ((F2 2 (by omega)).trans hs1)) (fun z => absurd rfl z)
theorem lw_12 (hG : Gok sw g) (P : StP A) (I : InvC sw h A) (M : InvM h A) (hs : h 2 = s2) (B : (0 ≤ i ∧ i + 4 < Ls ∧ Ls ≤ 2560) ∧ s2 (-1) = Ls) (H32 : ∀ k, mv32 (s2 k)) (nx : lwN i s2) : Rch 255 518 (lwL i) [] (97, g, h) lwQ := by
  refine rc_aload_n mq255 dw518 rfl ?_
  refine lw_arg (c := 1) dw519 dw520 dw521 dw522 dw523 (by omega) B hs ?_
  refine lw_arg (c := 2) dw524 dw525 dw526 dw527 dw528 (by omega) B hs ?_
  refine lw_arg (c := 3) dw529 dw530 dw531 dw532 dw533 (by omega) B hs ?_
  refine rc_callV [mvR 3, mvI (s2 (i + 1)), mvI (s2 (i + 2)), mvI (s2 (i + 3))] [] [some (mvR 3), some (mvI (s2 (i + 1))), some (mvI (s2 (i + 2))), some (mvI (s2 (i + 3)))] mq255 dw534 lk_11_66 mq179 (by decide) rfl rfl (Nat.le_of_ble_eq_true rfl) (Nat.le_of_ble_eq_true rfl) (by decide) rfl mis3 rfl (ri_bind (RC_under_spec (K := KCs sw h ((aUnder A (s2 (i + 1)) (s2 (i + 2)) (s2 (i + 3)), A))) hG P I (x := (s2 (i + 1))) (p := (s2 (i + 2))) (q := (s2 (i + 3))) (hx := H32 _) (k := (fun h' F I' => ⟨rfl, F, I'⟩))) (fun x1 h1 Z => ?_))
  obtain ⟨e1, F1, I1⟩ := Z
  have hs1 : h1 2 = s2 := (F1 2 (by omega)).trans hs
  have N := M.keep F1
  show Rch 255 537 (lwL i) [mvI x1] (97, _, h1) lwQ
  refine rc_aload_n mq255 dw537 rfl ?_
  refine lw_arg (c := 1) dw538 dw539 dw540 dw541 dw542 (by omega) B hs1 ?_
  refine lw_arg (c := 2) dw543 dw544 dw545 dw546 dw547 (by omega) B hs1 ?_
  refine lw_arg (c := 3) dw548 dw549 dw550 dw551 dw552 (by omega) B hs1 ?_
  refine rc_callV [mvR 68, mvI (s2 (i + 1)), mvI (s2 (i + 2)), mvI (s2 (i + 3))] [mvI x1] [some (mvR 68), some (mvI (s2 (i + 1))), some (mvI (s2 (i + 2))), some (mvI (s2 (i + 3)))] mq255 dw553 lk_11_69 mq166 (by decide) rfl rfl (Nat.le_of_ble_eq_true rfl) (Nat.le_of_ble_eq_true rfl) (by decide) rfl mis68 rfl (ri_bind (MD_under_spec (K := KMs h1 ((aUnder A (s2 (i + 1)) (s2 (i + 2)) (s2 (i + 3)), A))) hG P N (x := (s2 (i + 1))) (p := (s2 (i + 2))) (q := (s2 (i + 3))) (hx := H32 _)  (k := (fun h' F I' => ⟨rfl, F, I'⟩))) (fun x2 h2 Z => ?_))
  obtain ⟨e2, F2, I2⟩ := Z
  show Rch 255 556 (lwL i) [mvI x2, mvI x1] (97, _, h2) lwQ
  rw [e1, e2]
  exact rc_icmp_eq (t := 1026) mq255 dw556 rfl (fun _ => nx _ _ h2 _ hG (P) (I1.keep F2) I2 ((F2 2 (by omega)).trans hs1)) (fun z => absurd rfl z)
theorem lw_13 (hG : Gok sw g) (P : StP A) (I : InvC sw h A) (M : InvM h A) (hs : h 2 = s2) (B : (0 ≤ i ∧ i + 4 < Ls ∧ Ls ≤ 2560) ∧ s2 (-1) = Ls) (H32 : ∀ k, mv32 (s2 k)) (nx : lwN i s2) : Rch 255 561 (lwL i) [] (97, g, h) lwQ := by
  refine rc_aload_n mq255 dw561 rfl ?_
  refine lw_arg (c := 1) dw562 dw563 dw564 dw565 dw566 (by omega) B hs ?_
  refine lw_arg (c := 2) dw567 dw568 dw569 dw570 dw571 (by omega) B hs ?_
  refine rc_callV [mvR 3, mvI (s2 (i + 1)), mvI (s2 (i + 2))] [] [some (mvR 3), some (mvI (s2 (i + 1))), some (mvI (s2 (i + 2))), none] mq255 dw572 lk_11_70 mq200 (by decide) rfl rfl (Nat.le_of_ble_eq_true rfl) (Nat.le_of_ble_eq_true rfl) (by decide) rfl mis3 rfl (ri_bind (RC_meet_spec (K := KCs sw h ((aMix A (s2 (i + 1)) (s2 (i + 2)) 0, A))) hG P I (x := (s2 (i + 1))) (y := (s2 (i + 2))) (hx := H32 _) (hy := H32 _) (k := (fun h' F I' => ⟨rfl, F, I'⟩))) (fun x1 h1 Z => ?_))
  obtain ⟨e1, F1, I1⟩ := Z
  have hs1 : h1 2 = s2 := (F1 2 (by omega)).trans hs
  have N := M.keep F1
  show Rch 255 575 (lwL i) [mvI x1] (97, _, h1) lwQ
  refine rc_aload_n mq255 dw575 rfl ?_
  refine lw_arg (c := 1) dw576 dw577 dw578 dw579 dw580 (by omega) B hs1 ?_
  refine lw_arg (c := 2) dw581 dw582 dw583 dw584 dw585 (by omega) B hs1 ?_
  refine rc_callV [mvR 68, mvI (s2 (i + 1)), mvI (s2 (i + 2))] [mvI x1] [some (mvR 68), some (mvI (s2 (i + 1))), some (mvI (s2 (i + 2)))] mq255 dw586 lk_11_73 mq167 (by decide) rfl rfl (Nat.le_of_ble_eq_true rfl) (Nat.le_of_ble_eq_true rfl) (by decide) rfl mis68 rfl (ri_bind (MD_meet_spec (K := KMs h1 ((aMix A (s2 (i + 1)) (s2 (i + 2)) 0, A))) hG P N (x := (s2 (i + 1))) (y := (s2 (i + 2))) (hx := H32 _) (hy := H32 _)  (k := (fun h' F I' => ⟨rfl, F, I'⟩))) (fun x2 h2 Z => ?_))
  obtain ⟨e2, F2, I2⟩ := Z
  show Rch 255 589 (lwL i) [mvI x2, mvI x1] (97, _, h2) lwQ
  rw [e1, e2]
  exact rc_icmp_eq (t := 1026) mq255 dw589 rfl (fun _ => nx _ _ h2 _ hG (P) (I1.keep F2) I2 ((F2 2 (by omega)).trans hs1)) (fun z => absurd rfl z)
theorem lw_14 (hG : Gok sw g) (P : StP A) (I : InvC sw h A) (M : InvM h A) (hs : h 2 = s2) (B : (0 ≤ i ∧ i + 4 < Ls ∧ Ls ≤ 2560) ∧ s2 (-1) = Ls) (H32 : ∀ k, mv32 (s2 k)) (nx : lwN i s2) : Rch 255 594 (lwL i) [] (97, g, h) lwQ := by
  refine rc_aload_n mq255 dw594 rfl ?_
  refine lw_arg (c := 1) dw595 dw596 dw597 dw598 dw599 (by omega) B hs ?_
  refine lw_arg (c := 2) dw600 dw601 dw602 dw603 dw604 (by omega) B hs ?_
  refine rc_callV [mvR 3, mvI (s2 (i + 1)), mvI (s2 (i + 2))] [] [some (mvR 3), some (mvI (s2 (i + 1))), some (mvI (s2 (i + 2))), none] mq255 dw605 lk_11_74 mq201 (by decide) rfl rfl (Nat.le_of_ble_eq_true rfl) (Nat.le_of_ble_eq_true rfl) (by decide) rfl mis3 rfl (ri_bind (RC_join_spec (K := KCs sw h ((aMix A (s2 (i + 1)) (s2 (i + 2)) 1, A))) hG P I (x := (s2 (i + 1))) (y := (s2 (i + 2))) (hx := H32 _) (hy := H32 _) (k := (fun h' F I' => ⟨rfl, F, I'⟩))) (fun x1 h1 Z => ?_))
  obtain ⟨e1, F1, I1⟩ := Z
  have hs1 : h1 2 = s2 := (F1 2 (by omega)).trans hs
  have N := M.keep F1
  show Rch 255 608 (lwL i) [mvI x1] (97, _, h1) lwQ
  refine rc_aload_n mq255 dw608 rfl ?_
  refine lw_arg (c := 1) dw609 dw610 dw611 dw612 dw613 (by omega) B hs1 ?_
  refine lw_arg (c := 2) dw614 dw615 dw616 dw617 dw618 (by omega) B hs1 ?_
  refine rc_callV [mvR 68, mvI (s2 (i + 1)), mvI (s2 (i + 2))] [mvI x1] [some (mvR 68), some (mvI (s2 (i + 1))), some (mvI (s2 (i + 2)))] mq255 dw619 lk_11_77 mq168 (by decide) rfl rfl (Nat.le_of_ble_eq_true rfl) (Nat.le_of_ble_eq_true rfl) (by decide) rfl mis68 rfl (ri_bind (MD_join_spec (K := KMs h1 ((aMix A (s2 (i + 1)) (s2 (i + 2)) 1, A))) hG P N (x := (s2 (i + 1))) (y := (s2 (i + 2))) (hx := H32 _) (hy := H32 _)  (k := (fun h' F I' => ⟨rfl, F, I'⟩))) (fun x2 h2 Z => ?_))
  obtain ⟨e2, F2, I2⟩ := Z
  show Rch 255 622 (lwL i) [mvI x2, mvI x1] (97, _, h2) lwQ
  rw [e1, e2]
  exact rc_icmp_eq (t := 1026) mq255 dw622 rfl (fun _ => nx _ _ h2 _ hG (P) (I1.keep F2) I2 ((F2 2 (by omega)).trans hs1)) (fun z => absurd rfl z)
theorem lw_15 (hG : Gok sw g) (P : StP A) (I : InvC sw h A) (M : InvM h A) (hs : h 2 = s2) (B : (0 ≤ i ∧ i + 4 < Ls ∧ Ls ≤ 2560) ∧ s2 (-1) = Ls) (H32 : ∀ k, mv32 (s2 k)) (nx : lwN i s2) : Rch 255 627 (lwL i) [] (97, g, h) lwQ := by
  refine rc_aload_n mq255 dw627 rfl ?_
  refine lw_arg (c := 1) dw628 dw629 dw630 dw631 dw632 (by omega) B hs ?_
  refine rc_callV [mvR 3, mvI (s2 (i + 1))] [] [some (mvR 3), some (mvI (s2 (i + 1)))] mq255 dw633 lk_11_78 mq202 (by decide) rfl rfl (Nat.le_of_ble_eq_true rfl) (Nat.le_of_ble_eq_true rfl) (by decide) rfl mis3 rfl (ri_bind (RC_lattice_spec (K := KCs sw h ((aLattice A (s2 (i + 1)), A))) hG P I (x := (s2 (i + 1))) (k := (fun h' F I' => ⟨rfl, F, I'⟩))) (fun x1 h1 Z => ?_))
  obtain ⟨e1, F1, I1⟩ := Z
  have hs1 : h1 2 = s2 := (F1 2 (by omega)).trans hs
  have N := M.keep F1
  show Rch 255 636 (lwL i) [mvI x1] (97, _, h1) lwQ
  refine rc_aload_n mq255 dw636 rfl ?_
  refine lw_arg (c := 1) dw637 dw638 dw639 dw640 dw641 (by omega) B hs1 ?_
  refine rc_callV [mvR 68, mvI (s2 (i + 1))] [mvI x1] [some (mvR 68), some (mvI (s2 (i + 1)))] mq255 dw642 lk_11_81 mq244 (by decide) rfl rfl (Nat.le_of_ble_eq_true rfl) (Nat.le_of_ble_eq_true rfl) (by decide) rfl mis68 rfl (ri_bind (MD_lattice_spec (K := KMs h1 ((aLattice A (s2 (i + 1)), A))) hG P N (x := (s2 (i + 1)))  (k := (fun h' F I' => ⟨rfl, F, I'⟩))) (fun x2 h2 Z => ?_))
  obtain ⟨e2, F2, I2⟩ := Z
  show Rch 255 645 (lwL i) [mvI x2, mvI x1] (97, _, h2) lwQ
  rw [e1, e2]
  exact rc_icmp_eq (t := 1026) mq255 dw645 rfl (fun _ => nx _ _ h2 _ hG (P) (I1.keep F2) I2 ((F2 2 (by omega)).trans hs1)) (fun z => absurd rfl z)
theorem lw_16 (hG : Gok sw g) (P : StP A) (I : InvC sw h A) (M : InvM h A) (hs : h 2 = s2) (B : (0 ≤ i ∧ i + 4 < Ls ∧ Ls ≤ 2560) ∧ s2 (-1) = Ls) (H32 : ∀ k, mv32 (s2 k)) (nx : lwN i s2) : Rch 255 650 (lwL i) [] (97, g, h) lwQ := by
  refine rc_aload_n mq255 dw650 rfl ?_
  refine lw_arg (c := 1) dw651 dw652 dw653 dw654 dw655 (by omega) B hs ?_
  refine lw_arg (c := 2) dw656 dw657 dw658 dw659 dw660 (by omega) B hs ?_
  refine rc_callV [mvR 3, mvI (s2 (i + 1)), mvI (s2 (i + 2))] [] [some (mvR 3), some (mvI (s2 (i + 1))), some (mvI (s2 (i + 2)))] mq255 dw661 lk_11_82 mq203 (by decide) rfl rfl (Nat.le_of_ble_eq_true rfl) (Nat.le_of_ble_eq_true rfl) (by decide) rfl mis3 rfl (ri_bind (RC_level_spec (K := KCs sw h ((aLev A (s2 (i + 1)) (s2 (i + 2)), A))) hG P I (l := (s2 (i + 1))) (x := (s2 (i + 2))) (k := (fun h' F I' => ⟨rfl, F, I'⟩))) (fun x1 h1 Z => ?_))
  obtain ⟨e1, F1, I1⟩ := Z
  have hs1 : h1 2 = s2 := (F1 2 (by omega)).trans hs
  have N := M.keep F1
  show Rch 255 664 (lwL i) [mvI x1] (97, _, h1) lwQ
  refine rc_aload_n mq255 dw664 rfl ?_
  refine lw_arg (c := 1) dw665 dw666 dw667 dw668 dw669 (by omega) B hs1 ?_
  refine lw_arg (c := 2) dw670 dw671 dw672 dw673 dw674 (by omega) B hs1 ?_
  refine rc_callV [mvR 68, mvI (s2 (i + 1)), mvI (s2 (i + 2))] [mvI x1] [some (mvR 68), some (mvI (s2 (i + 1))), some (mvI (s2 (i + 2)))] mq255 dw675 lk_11_85 mq245 (by decide) rfl rfl (Nat.le_of_ble_eq_true rfl) (Nat.le_of_ble_eq_true rfl) (by decide) rfl mis68 rfl (ri_bind (MD_level_spec (K := KMs h1 ((aLev A (s2 (i + 1)) (s2 (i + 2)), A))) hG P N (l := (s2 (i + 1))) (x := (s2 (i + 2))) (hx := H32 _) (k := (fun h' F I' => ⟨rfl, F, I'⟩))) (fun x2 h2 Z => ?_))
  obtain ⟨e2, F2, I2⟩ := Z
  show Rch 255 678 (lwL i) [mvI x2, mvI x1] (97, _, h2) lwQ
  rw [e1, e2]
  exact rc_icmp_eq (t := 1026) mq255 dw678 rfl (fun _ => nx _ _ h2 _ hG (P) (I1.keep F2) I2 ((F2 2 (by omega)).trans hs1)) (fun z => absurd rfl z)
theorem lw_17 (hG : Gok sw g) (P : StP A) (I : InvC sw h A) (M : InvM h A) (hs : h 2 = s2) (B : (0 ≤ i ∧ i + 4 < Ls ∧ Ls ≤ 2560) ∧ s2 (-1) = Ls) (H32 : ∀ k, mv32 (s2 k)) (nx : lwN i s2) : Rch 255 683 (lwL i) [] (97, g, h) lwQ := by
  refine rc_aload_n mq255 dw683 rfl ?_
  refine lw_arg (c := 1) dw684 dw685 dw686 dw687 dw688 (by omega) B hs ?_
  refine lw_arg (c := 2) dw689 dw690 dw691 dw692 dw693 (by omega) B hs ?_
  refine rc_callV [mvR 3, mvI (s2 (i + 1)), mvI (s2 (i + 2))] [] [some (mvR 3), some (mvI (s2 (i + 1))), some (mvI (s2 (i + 2))), none] mq255 dw694 lk_11_86 mq143 (by decide) rfl rfl (Nat.le_of_ble_eq_true rfl) (Nat.le_of_ble_eq_true rfl) (by decide) rfl mis3 rfl (ri_bind (RC_wish_spec (K := KCs sw h (fWish A (s2 (i + 1)) (s2 (i + 2)))) hG P I (a := (s2 (i + 1))) (b := (s2 (i + 2))) (k := (fun h' F I' => ⟨rfl, F, I'⟩))) (fun x1 h1 Z => ?_))
  obtain ⟨e1, F1, I1⟩ := Z
  have hs1 : h1 2 = s2 := (F1 2 (by omega)).trans hs
  have N := M.keep F1
  show Rch 255 697 (lwL i) [mvI x1] (97, _, h1) lwQ
  refine rc_aload_n mq255 dw697 rfl ?_
  refine lw_arg (c := 1) dw698 dw699 dw700 dw701 dw702 (by omega) B hs1 ?_
  refine lw_arg (c := 2) dw703 dw704 dw705 dw706 dw707 (by omega) B hs1 ?_
  refine rc_callV [mvR 68, mvI (s2 (i + 1)), mvI (s2 (i + 2))] [mvI x1] [some (mvR 68), some (mvI (s2 (i + 1))), some (mvI (s2 (i + 2))), none] mq255 dw708 lk_11_89 mq129 (by decide) rfl rfl (Nat.le_of_ble_eq_true rfl) (Nat.le_of_ble_eq_true rfl) (by decide) rfl mis68 rfl (ri_bind (MD_wish_spec (K := KMs h1 (fWish A (s2 (i + 1)) (s2 (i + 2)))) hG P N (a := (s2 (i + 1))) (b := (s2 (i + 2)))  (k := (fun h' F I' => ⟨rfl, F, I'⟩))) (fun x2 h2 Z => ?_))
  obtain ⟨e2, F2, I2⟩ := Z
  show Rch 255 711 (lwL i) [mvI x2, mvI x1] (97, _, h2) lwQ
  rw [e1, e2]
  exact rc_icmp_eq (t := 1026) mq255 dw711 rfl (fun _ => nx _ _ h2 _ hG (fWish_P P) (I1.keep F2) I2 ((F2 2 (by omega)).trans hs1)) (fun z => absurd rfl z)
theorem lw_18 (hG : Gok sw g) (P : StP A) (I : InvC sw h A) (M : InvM h A) (hs : h 2 = s2) (B : (0 ≤ i ∧ i + 4 < Ls ∧ Ls ≤ 2560) ∧ s2 (-1) = Ls) (H32 : ∀ k, mv32 (s2 k)) (nx : lwN i s2) : Rch 255 716 (lwL i) [] (97, g, h) lwQ := by
  refine rc_aload_n mq255 dw716 rfl ?_
  refine lw_arg (c := 1) dw717 dw718 dw719 dw720 dw721 (by omega) B hs ?_
  refine lw_arg (c := 2) dw722 dw723 dw724 dw725 dw726 (by omega) B hs ?_
  refine rc_callV [mvR 3, mvI (s2 (i + 1)), mvI (s2 (i + 2))] [] [some (mvR 3), some (mvI (s2 (i + 1))), some (mvI (s2 (i + 2))), none] mq255 dw727 lk_11_90 mq144 (by decide) rfl rfl (Nat.le_of_ble_eq_true rfl) (Nat.le_of_ble_eq_true rfl) (by decide) rfl mis3 rfl (ri_bind (RC_allow_spec (K := KCs sw h (fAllow A (s2 (i + 1)) (s2 (i + 2)))) hG P I (p := (s2 (i + 1))) (v := (s2 (i + 2))) (k := (fun h' F I' => ⟨rfl, F, I'⟩))) (fun x1 h1 Z => ?_))
  obtain ⟨e1, F1, I1⟩ := Z
  have hs1 : h1 2 = s2 := (F1 2 (by omega)).trans hs
  have N := M.keep F1
  show Rch 255 730 (lwL i) [mvI x1] (97, _, h1) lwQ
  refine rc_aload_n mq255 dw730 rfl ?_
  refine lw_arg (c := 1) dw731 dw732 dw733 dw734 dw735 (by omega) B hs1 ?_
  refine lw_arg (c := 2) dw736 dw737 dw738 dw739 dw740 (by omega) B hs1 ?_
  refine rc_callV [mvR 68, mvI (s2 (i + 1)), mvI (s2 (i + 2))] [mvI x1] [some (mvR 68), some (mvI (s2 (i + 1))), some (mvI (s2 (i + 2))), none] mq255 dw741 lk_11_93 mq170 (by decide) rfl rfl (Nat.le_of_ble_eq_true rfl) (Nat.le_of_ble_eq_true rfl) (by decide) rfl mis68 rfl (ri_bind (MD_allow_spec (K := KMs h1 (fAllow A (s2 (i + 1)) (s2 (i + 2)))) hG P N (p := (s2 (i + 1))) (v := (s2 (i + 2)))  (k := (fun h' F I' => ⟨rfl, F, I'⟩))) (fun x2 h2 Z => ?_))
  obtain ⟨e2, F2, I2⟩ := Z
  show Rch 255 744 (lwL i) [mvI x2, mvI x1] (97, _, h2) lwQ
  rw [e1, e2]
  exact rc_icmp_eq (t := 1026) mq255 dw744 rfl (fun _ => nx _ _ h2 _ hG (fAllow_P P) (I1.keep F2) I2 ((F2 2 (by omega)).trans hs1)) (fun z => absurd rfl z)
theorem lw_19 (hG : Gok sw g) (P : StP A) (I : InvC sw h A) (M : InvM h A) (hs : h 2 = s2) (B : (0 ≤ i ∧ i + 4 < Ls ∧ Ls ≤ 2560) ∧ s2 (-1) = Ls) (H32 : ∀ k, mv32 (s2 k)) (nx : lwN i s2) : Rch 255 749 (lwL i) [] (97, g, h) lwQ := by
  refine rc_aload_n mq255 dw749 rfl ?_
  refine lw_arg (c := 1) dw750 dw751 dw752 dw753 dw754 (by omega) B hs ?_
  refine rc_callV [mvR 3, mvI (s2 (i + 1))] [] [some (mvR 3), some (mvI (s2 (i + 1)))] mq255 dw755 lk_11_94 mq237 (by decide) rfl rfl (Nat.le_of_ble_eq_true rfl) (Nat.le_of_ble_eq_true rfl) (by decide) rfl mis3 rfl (ri_bind (RC_wished_spec (K := KCs sw h ((aWished A (s2 (i + 1)), A))) hG P I (x := (s2 (i + 1))) (k := (fun h' F I' => ⟨rfl, F, I'⟩))) (fun x1 h1 Z => ?_))
  obtain ⟨e1, F1, I1⟩ := Z
  have hs1 : h1 2 = s2 := (F1 2 (by omega)).trans hs
  have N := M.keep F1
  show Rch 255 758 (lwL i) [mvI x1] (97, _, h1) lwQ
  refine rc_aload_n mq255 dw758 rfl ?_
  refine lw_arg (c := 1) dw759 dw760 dw761 dw762 dw763 (by omega) B hs1 ?_
  refine rc_callV [mvR 68, mvI (s2 (i + 1))] [mvI x1] [some (mvR 68), some (mvI (s2 (i + 1)))] mq255 dw764 lk_11_97 mq246 (by decide) rfl rfl (Nat.le_of_ble_eq_true rfl) (Nat.le_of_ble_eq_true rfl) (by decide) rfl mis68 rfl (ri_bind (MD_wished_spec (K := KMs h1 ((aWished A (s2 (i + 1)), A))) hG P N (x := (s2 (i + 1)))  (k := (fun h' F I' => ⟨rfl, F, I'⟩))) (fun x2 h2 Z => ?_))
  obtain ⟨e2, F2, I2⟩ := Z
  show Rch 255 767 (lwL i) [mvI x2, mvI x1] (97, _, h2) lwQ
  rw [e1, e2]
  exact rc_icmp_eq (t := 1026) mq255 dw767 rfl (fun _ => nx _ _ h2 _ hG (P) (I1.keep F2) I2 ((F2 2 (by omega)).trans hs1)) (fun z => absurd rfl z)
theorem lw_20 (hG : Gok sw g) (P : StP A) (I : InvC sw h A) (M : InvM h A) (hs : h 2 = s2) (B : (0 ≤ i ∧ i + 4 < Ls ∧ Ls ≤ 2560) ∧ s2 (-1) = Ls) (H32 : ∀ k, mv32 (s2 k)) (nx : lwN i s2) : Rch 255 772 (lwL i) [] (97, g, h) lwQ := by
  refine rc_aload_n mq255 dw772 rfl ?_
  refine lw_arg (c := 1) dw773 dw774 dw775 dw776 dw777 (by omega) B hs ?_
  refine rc_callV [mvR 3, mvI (s2 (i + 1))] [] [some (mvR 3), some (mvI (s2 (i + 1)))] mq255 dw778 lk_11_98 mq238 (by decide) rfl rfl (Nat.le_of_ble_eq_true rfl) (Nat.le_of_ble_eq_true rfl) (by decide) rfl mis3 rfl (ri_bind (RC_around_spec (K := KCs sw h ((aAround A (s2 (i + 1)), A))) hG P I (s := (s2 (i + 1))) (k := (fun h' F I' => ⟨rfl, F, I'⟩))) (fun x1 h1 Z => ?_))
  obtain ⟨e1, F1, I1⟩ := Z
  have hs1 : h1 2 = s2 := (F1 2 (by omega)).trans hs
  have N := M.keep F1
  show Rch 255 781 (lwL i) [mvI x1] (97, _, h1) lwQ
  refine rc_aload_n mq255 dw781 rfl ?_
  refine lw_arg (c := 1) dw782 dw783 dw784 dw785 dw786 (by omega) B hs1 ?_
  refine rc_callV [mvR 68, mvI (s2 (i + 1))] [mvI x1] [some (mvR 68), some (mvI (s2 (i + 1)))] mq255 dw787 lk_11_101 mq229 (by decide) rfl rfl (Nat.le_of_ble_eq_true rfl) (Nat.le_of_ble_eq_true rfl) (by decide) rfl mis68 rfl (ri_bind (MD_around_spec (K := KMs h1 ((aAround A (s2 (i + 1)), A))) hG P N (s := (s2 (i + 1)))  (k := (fun h' F I' => ⟨rfl, F, I'⟩))) (fun x2 h2 Z => ?_))
  obtain ⟨e2, F2, I2⟩ := Z
  show Rch 255 790 (lwL i) [mvI x2, mvI x1] (97, _, h2) lwQ
  rw [e1, e2]
  exact rc_icmp_eq (t := 1026) mq255 dw790 rfl (fun _ => nx _ _ h2 _ hG (P) (I1.keep F2) I2 ((F2 2 (by omega)).trans hs1)) (fun z => absurd rfl z)
theorem lw_21 (hG : Gok sw g) (P : StP A) (I : InvC sw h A) (M : InvM h A) (hs : h 2 = s2) (B : (0 ≤ i ∧ i + 4 < Ls ∧ Ls ≤ 2560) ∧ s2 (-1) = Ls) (H32 : ∀ k, mv32 (s2 k)) (nx : lwN i s2) : Rch 255 795 (lwL i) [] (97, g, h) lwQ := by
  refine rc_aload_n mq255 dw795 rfl ?_
  refine rc_callV [mvR 3] [] [some (mvR 3)] mq255 dw796 lk_11_102 mq239 (by decide) rfl rfl (Nat.le_of_ble_eq_true rfl) (Nat.le_of_ble_eq_true rfl) (by decide) rfl mis3 rfl (ri_bind (RC_least_spec (K := KCs sw h ((aLeast A, A))) hG P I  (k := (fun h' F I' => ⟨rfl, F, I'⟩))) (fun x1 h1 Z => ?_))
  obtain ⟨e1, F1, I1⟩ := Z
  have hs1 : h1 2 = s2 := (F1 2 (by omega)).trans hs
  have N := M.keep F1
  show Rch 255 799 (lwL i) [mvI x1] (97, _, h1) lwQ
  refine rc_aload_n mq255 dw799 rfl ?_
  refine rc_callV [mvR 68] [mvI x1] [some (mvR 68)] mq255 dw800 lk_11_105 mq247 (by decide) rfl rfl (Nat.le_of_ble_eq_true rfl) (Nat.le_of_ble_eq_true rfl) (by decide) rfl mis68 rfl (ri_bind (MD_least_spec (K := KMs h1 ((aLeast A, A))) hG P N   (k := (fun h' F I' => ⟨rfl, F, I'⟩))) (fun x2 h2 Z => ?_))
  obtain ⟨e2, F2, I2⟩ := Z
  show Rch 255 803 (lwL i) [mvI x2, mvI x1] (97, _, h2) lwQ
  rw [e1, e2]
  exact rc_icmp_eq (t := 1026) mq255 dw803 rfl (fun _ => nx _ _ h2 _ hG (P) (I1.keep F2) I2 ((F2 2 (by omega)).trans hs1)) (fun z => absurd rfl z)
theorem lw_22 (hG : Gok sw g) (P : StP A) (I : InvC sw h A) (M : InvM h A) (hs : h 2 = s2) (B : (0 ≤ i ∧ i + 4 < Ls ∧ Ls ≤ 2560) ∧ s2 (-1) = Ls) (H32 : ∀ k, mv32 (s2 k)) (nx : lwN i s2) : Rch 255 808 (lwL i) [] (97, g, h) lwQ := by
  refine rc_aload_n mq255 dw808 rfl ?_
  refine rc_callV [mvR 3] [] [some (mvR 3)] mq255 dw809 lk_11_106 mq204 (by decide) rfl rfl (Nat.le_of_ble_eq_true rfl) (Nat.le_of_ble_eq_true rfl) (by decide) rfl mis3 rfl (ri_bind (RC_strong_spec (K := KCs sw h ((aStrong A, A))) hG P I  (k := (fun h' F I' => ⟨rfl, F, I'⟩))) (fun x1 h1 Z => ?_))
  obtain ⟨e1, F1, I1⟩ := Z
  have hs1 : h1 2 = s2 := (F1 2 (by omega)).trans hs
  have N := M.keep F1
  show Rch 255 812 (lwL i) [mvI x1] (97, _, h1) lwQ
  refine rc_aload_n mq255 dw812 rfl ?_
  refine rc_callV [mvR 68] [mvI x1] [some (mvR 68)] mq255 dw813 lk_11_109 mq231 (by decide) rfl rfl (Nat.le_of_ble_eq_true rfl) (Nat.le_of_ble_eq_true rfl) (by decide) rfl mis68 rfl (ri_bind (MD_strong_spec (K := KMs h1 ((aStrong A, A))) hG P N   (k := (fun h' F I' => ⟨rfl, F, I'⟩))) (fun x2 h2 Z => ?_))
  obtain ⟨e2, F2, I2⟩ := Z
  show Rch 255 816 (lwL i) [mvI x2, mvI x1] (97, _, h2) lwQ
  rw [e1, e2]
  exact rc_icmp_eq (t := 1026) mq255 dw816 rfl (fun _ => nx _ _ h2 _ hG (P) (I1.keep F2) I2 ((F2 2 (by omega)).trans hs1)) (fun z => absurd rfl z)
theorem lw_23 (hG : Gok sw g) (P : StP A) (I : InvC sw h A) (M : InvM h A) (hs : h 2 = s2) (B : (0 ≤ i ∧ i + 4 < Ls ∧ Ls ≤ 2560) ∧ s2 (-1) = Ls) (H32 : ∀ k, mv32 (s2 k)) (nx : lwN i s2) : Rch 255 821 (lwL i) [] (97, g, h) lwQ := by
  refine rc_aload_n mq255 dw821 rfl ?_
  refine lw_arg (c := 1) dw822 dw823 dw824 dw825 dw826 (by omega) B hs ?_
  refine lw_arg (c := 2) dw827 dw828 dw829 dw830 dw831 (by omega) B hs ?_
  refine lw_arg (c := 3) dw832 dw833 dw834 dw835 dw836 (by omega) B hs ?_
  refine rc_callV [mvR 3, mvI (s2 (i + 1)), mvI (s2 (i + 2)), mvI (s2 (i + 3))] [] [some (mvR 3), some (mvI (s2 (i + 1))), some (mvI (s2 (i + 2))), some (mvI (s2 (i + 3)))] mq255 dw837 lk_11_110 mq145 (by decide) rfl rfl (Nat.le_of_ble_eq_true rfl) (Nat.le_of_ble_eq_true rfl) (by decide) rfl mis3 rfl (ri_bind (RC_interval_spec (K := KCs sw h ((aInterval A (s2 (i + 1)) (s2 (i + 2)) (s2 (i + 3)), A))) hG P I (p := (s2 (i + 1))) (i := (s2 (i + 2))) (x := (s2 (i + 3))) (k := (fun h' F I' => ⟨rfl, F, I'⟩))) (fun x1 h1 Z => ?_))
  obtain ⟨e1, F1, I1⟩ := Z
  have hs1 : h1 2 = s2 := (F1 2 (by omega)).trans hs
  have N := M.keep F1
  show Rch 255 840 (lwL i) [mvI x1] (97, _, h1) lwQ
  refine rc_aload_n mq255 dw840 rfl ?_
  refine lw_arg (c := 1) dw841 dw842 dw843 dw844 dw845 (by omega) B hs1 ?_
  refine lw_arg (c := 2) dw846 dw847 dw848 dw849 dw850 (by omega) B hs1 ?_
  refine lw_arg (c := 3) dw851 dw852 dw853 dw854 dw855 (by omega) B hs1 ?_
  refine rc_callV [mvR 68, mvI (s2 (i + 1)), mvI (s2 (i + 2)), mvI (s2 (i + 3))] [mvI x1] [some (mvR 68), some (mvI (s2 (i + 1))), some (mvI (s2 (i + 2))), some (mvI (s2 (i + 3))), none] mq255 dw856 lk_11_113 mq194 (by decide) rfl rfl (Nat.le_of_ble_eq_true rfl) (Nat.le_of_ble_eq_true rfl) (by decide) rfl mis68 rfl (ri_bind (MD_interval_spec (K := KMs h1 ((aInterval A (s2 (i + 1)) (s2 (i + 2)) (s2 (i + 3)), A))) hG P N (p := (s2 (i + 1))) (i := (s2 (i + 2))) (x := (s2 (i + 3))) (hi := H32 _) (k := (fun h' F I' => ⟨rfl, F, I'⟩))) (fun x2 h2 Z => ?_))
  obtain ⟨e2, F2, I2⟩ := Z
  show Rch 255 859 (lwL i) [mvI x2, mvI x1] (97, _, h2) lwQ
  rw [e1, e2]
  exact rc_icmp_eq (t := 1026) mq255 dw859 rfl (fun _ => nx _ _ h2 _ hG (P) (I1.keep F2) I2 ((F2 2 (by omega)).trans hs1)) (fun z => absurd rfl z)
theorem lw_24 (hG : Gok sw g) (P : StP A) (I : InvC sw h A) (M : InvM h A) (hs : h 2 = s2) (B : (0 ≤ i ∧ i + 4 < Ls ∧ Ls ≤ 2560) ∧ s2 (-1) = Ls) (H32 : ∀ k, mv32 (s2 k)) (nx : lwN i s2) : Rch 255 864 (lwL i) [] (97, g, h) lwQ := by
  refine rc_aload_n mq255 dw864 rfl ?_
  refine lw_arg (c := 1) dw865 dw866 dw867 dw868 dw869 (by omega) B hs ?_
  refine rc_callV [mvR 3, mvI (s2 (i + 1))] [] [some (mvR 3), some (mvI (s2 (i + 1)))] mq255 dw870 lk_11_114 mq240 (by decide) rfl rfl (Nat.le_of_ble_eq_true rfl) (Nat.le_of_ble_eq_true rfl) (by decide) rfl mis3 rfl (ri_bind (RC_lean_spec (K := KCs sw h ((aLean A (s2 (i + 1)), A))) hG P I (x := (s2 (i + 1))) (k := (fun h' F I' => ⟨rfl, F, I'⟩))) (fun x1 h1 Z => ?_))
  obtain ⟨e1, F1, I1⟩ := Z
  have hs1 : h1 2 = s2 := (F1 2 (by omega)).trans hs
  have N := M.keep F1
  show Rch 255 873 (lwL i) [mvI x1] (97, _, h1) lwQ
  refine rc_aload_n mq255 dw873 rfl ?_
  refine lw_arg (c := 1) dw874 dw875 dw876 dw877 dw878 (by omega) B hs1 ?_
  refine rc_callV [mvR 68, mvI (s2 (i + 1))] [mvI x1] [some (mvR 68), some (mvI (s2 (i + 1)))] mq255 dw879 lk_11_117 mq248 (by decide) rfl rfl (Nat.le_of_ble_eq_true rfl) (Nat.le_of_ble_eq_true rfl) (by decide) rfl mis68 rfl (ri_bind (MD_lean_spec (K := KMs h1 ((aLean A (s2 (i + 1)), A))) hG P N (x := (s2 (i + 1)))  (k := (fun h' F I' => ⟨rfl, F, I'⟩))) (fun x2 h2 Z => ?_))
  obtain ⟨e2, F2, I2⟩ := Z
  show Rch 255 882 (lwL i) [mvI x2, mvI x1] (97, _, h2) lwQ
  rw [e1, e2]
  exact rc_icmp_eq (t := 1026) mq255 dw882 rfl (fun _ => nx _ _ h2 _ hG (P) (I1.keep F2) I2 ((F2 2 (by omega)).trans hs1)) (fun z => absurd rfl z)
theorem lw_25 (hG : Gok sw g) (P : StP A) (I : InvC sw h A) (M : InvM h A) (hs : h 2 = s2) (B : (0 ≤ i ∧ i + 4 < Ls ∧ Ls ≤ 2560) ∧ s2 (-1) = Ls) (H32 : ∀ k, mv32 (s2 k)) (nx : lwN i s2) : Rch 255 887 (lwL i) [] (97, g, h) lwQ := by
  refine rc_aload_n mq255 dw887 rfl ?_
  refine lw_arg (c := 1) dw888 dw889 dw890 dw891 dw892 (by omega) B hs ?_
  refine rc_callV [mvR 3, mvI (s2 (i + 1))] [] [some (mvR 3), some (mvI (s2 (i + 1)))] mq255 dw893 lk_11_118 mq205 (by decide) rfl rfl (Nat.le_of_ble_eq_true rfl) (Nat.le_of_ble_eq_true rfl) (by decide) rfl mis3 rfl (ri_bind (RC_play_spec (K := KCs sw h (fPlay A (s2 (i + 1)))) hG P I (s := (s2 (i + 1))) (hs := H32 _) (k := (fun h' F I' => ⟨rfl, F, I'⟩))) (fun x1 h1 Z => ?_))
  obtain ⟨e1, F1, I1⟩ := Z
  have hs1 : h1 2 = s2 := (F1 2 (by omega)).trans hs
  have N := M.keep F1
  show Rch 255 896 (lwL i) [mvI x1] (97, _, h1) lwQ
  refine rc_aload_n mq255 dw896 rfl ?_
  refine lw_arg (c := 1) dw897 dw898 dw899 dw900 dw901 (by omega) B hs1 ?_
  refine rc_callV [mvR 68, mvI (s2 (i + 1))] [mvI x1] [some (mvR 68), some (mvI (s2 (i + 1))), none, none] mq255 dw902 lk_11_121 mq175 (by decide) rfl rfl (Nat.le_of_ble_eq_true rfl) (Nat.le_of_ble_eq_true rfl) (by decide) rfl mis68 rfl (ri_bind (MD_play_spec2 (K := KMs h1 (fPlay A (s2 (i + 1)))) hG P N (s := (s2 (i + 1))) (hs := H32 _)  (k := (fun h' F I' => ⟨rfl, F, I'⟩))) (fun x2 h2 Z => ?_))
  obtain ⟨e2, F2, I2⟩ := Z
  show Rch 255 905 (lwL i) [mvI x2, mvI x1] (97, _, h2) lwQ
  rw [e1, e2]
  exact rc_icmp_eq (t := 1026) mq255 dw905 rfl (fun _ => nx _ _ h2 _ hG (fPlay_P P (H32 _)) (I1.keep F2) I2 ((F2 2 (by omega)).trans hs1)) (fun z => absurd rfl z)
theorem lw_26 (hG : Gok sw g) (P : StP A) (I : InvC sw h A) (M : InvM h A) (hs : h 2 = s2) (B : (0 ≤ i ∧ i + 4 < Ls ∧ Ls ≤ 2560) ∧ s2 (-1) = Ls) (H32 : ∀ k, mv32 (s2 k)) (nx : lwN i s2) : Rch 255 910 (lwL i) [] (97, g, h) lwQ := by
  refine rc_aload_n mq255 dw910 rfl ?_
  refine lw_arg (c := 1) dw911 dw912 dw913 dw914 dw915 (by omega) B hs ?_
  refine rc_callV [mvR 3, mvI (s2 (i + 1))] [] [some (mvR 3), some (mvI (s2 (i + 1)))] mq255 dw916 lk_11_122 mq1 (by decide) rfl rfl (Nat.le_of_ble_eq_true rfl) (Nat.le_of_ble_eq_true rfl) (by decide) rfl mis3 rfl (ri_bind (RC_played_spec (K := KCs sw h ((aPlayed A (s2 (i + 1)), A))) hG P I (x := (s2 (i + 1))) (k := (fun h' F I' => ⟨rfl, F, I'⟩))) (fun x1 h1 Z => ?_))
  obtain ⟨e1, F1, I1⟩ := Z
  have hs1 : h1 2 = s2 := (F1 2 (by omega)).trans hs
  have N := M.keep F1
  show Rch 255 919 (lwL i) [mvI x1] (97, _, h1) lwQ
  refine rc_aload_n mq255 dw919 rfl ?_
  refine lw_arg (c := 1) dw920 dw921 dw922 dw923 dw924 (by omega) B hs1 ?_
  refine rc_callV [mvR 68, mvI (s2 (i + 1))] [mvI x1] [some (mvR 68), some (mvI (s2 (i + 1)))] mq255 dw925 lk_11_125 mq134 (by decide) rfl rfl (Nat.le_of_ble_eq_true rfl) (Nat.le_of_ble_eq_true rfl) (by decide) rfl mis68 rfl (ri_bind (MD_played_spec (K := KMs h1 ((aPlayed A (s2 (i + 1)), A))) hG P N (x := (s2 (i + 1)))  (k := (fun h' F I' => ⟨rfl, F, I'⟩))) (fun x2 h2 Z => ?_))
  obtain ⟨e2, F2, I2⟩ := Z
  show Rch 255 928 (lwL i) [mvI x2, mvI x1] (97, _, h2) lwQ
  rw [e1, e2]
  exact rc_icmp_eq (t := 1026) mq255 dw928 rfl (fun _ => nx _ _ h2 _ hG (P) (I1.keep F2) I2 ((F2 2 (by omega)).trans hs1)) (fun z => absurd rfl z)
theorem lw_27 (hG : Gok sw g) (P : StP A) (I : InvC sw h A) (M : InvM h A) (hs : h 2 = s2) (B : (0 ≤ i ∧ i + 4 < Ls ∧ Ls ≤ 2560) ∧ s2 (-1) = Ls) (H32 : ∀ k, mv32 (s2 k)) (nx : lwN i s2) : Rch 255 933 (lwL i) [] (97, g, h) lwQ := by
  refine rc_aload_n mq255 dw933 rfl ?_
  refine lw_arg (c := 1) dw934 dw935 dw936 dw937 dw938 (by omega) B hs ?_
  refine lw_arg (c := 2) dw939 dw940 dw941 dw942 dw943 (by omega) B hs ?_
  refine rc_callV [mvR 3, mvI (s2 (i + 1)), mvI (s2 (i + 2))] [] [some (mvR 3), some (mvI (s2 (i + 1))), some (mvI (s2 (i + 2)))] mq255 dw944 lk_11_126 mq241 (by decide) rfl rfl (Nat.le_of_ble_eq_true rfl) (Nat.le_of_ble_eq_true rfl) (by decide) rfl mis3 rfl (ri_bind (RC_shot_spec (K := KCs sw h (fShot A (s2 (i + 1)) (s2 (i + 2)))) hG P I (p := (s2 (i + 1))) (t := (s2 (i + 2))) (k := (fun h' F I' => ⟨rfl, F, I'⟩))) (fun x1 h1 Z => ?_))
  obtain ⟨e1, F1, I1⟩ := Z
  have hs1 : h1 2 = s2 := (F1 2 (by omega)).trans hs
  have N := M.keep F1
  show Rch 255 947 (lwL i) [mvI x1] (97, _, h1) lwQ
  refine rc_aload_n mq255 dw947 rfl ?_
  refine lw_arg (c := 1) dw948 dw949 dw950 dw951 dw952 (by omega) B hs1 ?_
  refine lw_arg (c := 2) dw953 dw954 dw955 dw956 dw957 (by omega) B hs1 ?_
  refine rc_callV [mvR 68, mvI (s2 (i + 1)), mvI (s2 (i + 2))] [mvI x1] [some (mvR 68), some (mvI (s2 (i + 1))), some (mvI (s2 (i + 2)))] mq255 dw958 lk_11_129 mq233 (by decide) rfl rfl (Nat.le_of_ble_eq_true rfl) (Nat.le_of_ble_eq_true rfl) (by decide) rfl mis68 rfl (ri_bind (MD_shot_spec (K := KMs h1 (fShot A (s2 (i + 1)) (s2 (i + 2)))) hG P N (p := (s2 (i + 1))) (t := (s2 (i + 2)))  (k := (fun h' F I' => ⟨rfl, F, I'⟩))) (fun x2 h2 Z => ?_))
  obtain ⟨e2, F2, I2⟩ := Z
  show Rch 255 961 (lwL i) [mvI x2, mvI x1] (97, _, h2) lwQ
  rw [e1, e2]
  exact rc_icmp_eq (t := 1026) mq255 dw961 rfl (fun _ => nx _ _ h2 _ hG (fShot_P P) (I1.keep F2) I2 ((F2 2 (by omega)).trans hs1)) (fun z => absurd rfl z)
theorem lw_28 (hG : Gok sw g) (P : StP A) (I : InvC sw h A) (M : InvM h A) (hs : h 2 = s2) (B : (0 ≤ i ∧ i + 4 < Ls ∧ Ls ≤ 2560) ∧ s2 (-1) = Ls) (H32 : ∀ k, mv32 (s2 k)) (nx : lwN i s2) : Rch 255 966 (lwL i) [] (97, g, h) lwQ := by
  refine rc_aload_n mq255 dw966 rfl ?_
  refine lw_arg (c := 1) dw967 dw968 dw969 dw970 dw971 (by omega) B hs ?_
  refine rc_callV [mvR 3, mvI (s2 (i + 1))] [] [some (mvR 3), some (mvI (s2 (i + 1)))] mq255 dw972 lk_11_130 mq69 (by decide) rfl rfl (Nat.le_of_ble_eq_true rfl) (Nat.le_of_ble_eq_true rfl) (by decide) rfl mis3 rfl (ri_bind (RC_shots_spec (K := KCs sw h ((aShots A (s2 (i + 1)), A))) hG P I (x := (s2 (i + 1))) (k := (fun h' F I' => ⟨rfl, F, I'⟩))) (fun x1 h1 Z => ?_))
  obtain ⟨e1, F1, I1⟩ := Z
  have hs1 : h1 2 = s2 := (F1 2 (by omega)).trans hs
  have N := M.keep F1
  show Rch 255 975 (lwL i) [mvI x1] (97, _, h1) lwQ
  refine rc_aload_n mq255 dw975 rfl ?_
  refine lw_arg (c := 1) dw976 dw977 dw978 dw979 dw980 (by omega) B hs1 ?_
  refine rc_callV [mvR 68, mvI (s2 (i + 1))] [mvI x1] [some (mvR 68), some (mvI (s2 (i + 1)))] mq255 dw981 lk_11_133 mq137 (by decide) rfl rfl (Nat.le_of_ble_eq_true rfl) (Nat.le_of_ble_eq_true rfl) (by decide) rfl mis68 rfl (ri_bind (MD_shots_spec (K := KMs h1 ((aShots A (s2 (i + 1)), A))) hG P N (x := (s2 (i + 1)))  (k := (fun h' F I' => ⟨rfl, F, I'⟩))) (fun x2 h2 Z => ?_))
  obtain ⟨e2, F2, I2⟩ := Z
  show Rch 255 984 (lwL i) [mvI x2, mvI x1] (97, _, h2) lwQ
  rw [e1, e2]
  exact rc_icmp_eq (t := 1026) mq255 dw984 rfl (fun _ => nx _ _ h2 _ hG (P) (I1.keep F2) I2 ((F2 2 (by omega)).trans hs1)) (fun z => absurd rfl z)
theorem lw_29 (hG : Gok sw g) (P : StP A) (I : InvC sw h A) (M : InvM h A) (hs : h 2 = s2) (B : (0 ≤ i ∧ i + 4 < Ls ∧ Ls ≤ 2560) ∧ s2 (-1) = Ls) (H32 : ∀ k, mv32 (s2 k)) (nx : lwN i s2) : Rch 255 989 (lwL i) [] (97, g, h) lwQ := by
  refine rc_aload_n mq255 dw989 rfl ?_
  refine lw_arg (c := 1) dw990 dw991 dw992 dw993 dw994 (by omega) B hs ?_
  refine rc_callV [mvR 3, mvI (s2 (i + 1))] [] [some (mvR 3), some (mvI (s2 (i + 1)))] mq255 dw995 lk_11_134 mq70 (by decide) rfl rfl (Nat.le_of_ble_eq_true rfl) (Nat.le_of_ble_eq_true rfl) (by decide) rfl mis3 rfl (ri_bind (RC_count_spec (K := KCs sw h ((aCount A (s2 (i + 1)), A))) hG P I (x := (s2 (i + 1))) (k := ⟨rfl, fun _ _ => rfl, I⟩)) (fun x1 h1 Z => ?_))
  obtain ⟨e1, F1, I1⟩ := Z
  have hs1 : h1 2 = s2 := (F1 2 (by omega)).trans hs
  have N := M.keep F1
  show Rch 255 998 (lwL i) [mvI x1] (97, _, h1) lwQ
  refine rc_aload_n mq255 dw998 rfl ?_
  refine lw_arg (c := 1) dw999 dw1000 dw1001 dw1002 dw1003 (by omega) B hs1 ?_
  refine rc_callV [mvR 68, mvI (s2 (i + 1))] [mvI x1] [some (mvR 68), some (mvI (s2 (i + 1)))] mq255 dw1004 lk_11_137 mq177 (by decide) rfl rfl (Nat.le_of_ble_eq_true rfl) (Nat.le_of_ble_eq_true rfl) (by decide) rfl mis68 rfl (ri_bind (MD_count_spec (K := KMs h1 ((aCount A (s2 (i + 1)), A))) hG P N (x := (s2 (i + 1)))  (k := ⟨rfl, fun _ _ => rfl, N⟩)) (fun x2 h2 Z => ?_))
  obtain ⟨e2, F2, I2⟩ := Z
  show Rch 255 1007 (lwL i) [mvI x2, mvI x1] (97, _, h2) lwQ
  rw [e1, e2]
  exact rc_icmp_eq (t := 1026) mq255 dw1007 rfl (fun _ => nx _ _ h2 _ hG (P) (I1.keep F2) I2 ((F2 2 (by omega)).trans hs1)) (fun z => absurd rfl z)
theorem lw_30 (hG : Gok sw g) (P : StP A) (I : InvC sw h A) (M : InvM h A) (hs : h 2 = s2) (B : (0 ≤ i ∧ i + 4 < Ls ∧ Ls ≤ 2560) ∧ s2 (-1) = Ls) (H32 : ∀ k, mv32 (s2 k)) (nx : lwN i s2) : Rch 255 1012 (lwL i) [] (97, g, h) lwQ := by
  refine rc_aload_n mq255 dw1012 rfl ?_
  obtain ⟨dg, hd⟩ : ∃ d, d = aDigest A := ⟨_, rfl⟩
  refine rc_callV [mvR 3] [] [some (mvR 3), none, none, none] mq255 dw1013 lk_11_138 mq252 (by decide) rfl rfl (Nat.le_of_ble_eq_true rfl) (Nat.le_of_ble_eq_true rfl) (by decide) rfl mis3 rfl (rj_bind (RC_digest_spec (K := KCs sw h ((dg, A))) hG P I  (k := (fun h' F I' => ⟨hd.symm, F, I'⟩))) (fun x1 h1 Z => ?_))
  obtain ⟨e1, F1, I1⟩ := Z
  have hs1 : h1 2 = s2 := (F1 2 (by omega)).trans hs
  have N := M.keep F1
  show Rch 255 1016 (lwL i) [mvJ x1] (97, _, h1) lwQ
  refine rc_aload_n mq255 dw1016 rfl ?_
  refine rc_callV [mvR 68] [mvJ x1] [some (mvR 68), none] mq255 dw1017 lk_11_142 mq254 (by decide) rfl rfl (Nat.le_of_ble_eq_true rfl) (Nat.le_of_ble_eq_true rfl) (by decide) rfl mis68 rfl (rj_bind (MD_digest_spec (K := KMs h1 ((dg, A))) hG P N   (k := (fun h' F I' => ⟨hd.symm, F, I'⟩))) (fun x2 h2 Z => ?_))
  obtain ⟨e2, F2, I2⟩ := Z
  show Rch 255 1020 (lwL i) [mvJ x2, mvJ x1] (97, _, h2) lwQ
  rw [e1, e2]
  refine rc_lcmp mq255 dw1020 ?_
  exact rc_if_eq (t := 1026) mq255 dw1021 rfl (fun _ => nx _ _ h2 _ hG (P) (I1.keep F2) I2 ((F2 2 (by omega)).trans hs1)) (fun z => absurd (lcmp_self _) z)
theorem lw_op (hG : Gok sw g) (P : StP A) (I : InvC sw h A) (M : InvM h A) (hs : h 2 = s2) (B : (0 ≤ i ∧ i + 4 < Ls ∧ Ls ≤ 2560) ∧ s2 (-1) = Ls) (H32 : ∀ k, mv32 (s2 k)) (nx : lwN i s2) : Rch 255 26 (lwL i) [] (97, g, h) lwQ := by
  refine rc_aload_n mq255 dw26 rfl ?_
  refine rc_iload_n mq255 dw27 rfl ?_
  refine rc_ialdS mq255 dw28 B.1.1 (by rw [hs, B.2]; omega) ?_
  refine rc_bipush mq255 dw29 (by decide) ?_
  refine rc_iand mq255 dw31 ?_
  generalize mvAnd (h 2 i) 31 = x
  have hsw : (x < 0 ∨ 30 < x) ∨ x = 0 ∨ x = 1 ∨ x = 2 ∨ x = 3 ∨ x = 4 ∨ x = 5 ∨ x = 6 ∨ x = 7 ∨ x = 8 ∨ x = 9 ∨ x = 10 ∨ x = 11 ∨ x = 12 ∨ x = 13 ∨ x = 14 ∨ x = 15 ∨ x = 16 ∨ x = 17 ∨ x = 18 ∨ x = 19 ∨ x = 20 ∨ x = 21 ∨ x = 22 ∨ x = 23 ∨ x = 24 ∨ x = 25 ∨ x = 26 ∨ x = 27 ∨ x = 28 ∨ x = 29 ∨ x = 30 := by omega
  rcases hsw with hsw | hsw | hsw | hsw | hsw | hsw | hsw | hsw | hsw | hsw | hsw | hsw | hsw | hsw | hsw | hsw | hsw | hsw | hsw | hsw | hsw | hsw | hsw | hsw | hsw | hsw | hsw | hsw | hsw | hsw | hsw | hsw
  · exact rc_swD (t := 1026) mq255 dw32 hsw rfl (nx _ _ h _ hG P I M hs)
  · exact rc_swI (t := 172) mq255 dw32 (by omega) (by rw [hsw]; rfl) rfl (lw_0 hG P I M hs B H32 nx)
  · exact rc_swI (t := 195) mq255 dw32 (by omega) (by rw [hsw]; rfl) rfl (lw_1 hG P I M hs B H32 nx)
  · exact rc_swI (t := 208) mq255 dw32 (by omega) (by rw [hsw]; rfl) rfl (lw_2 hG P I M hs B H32 nx)
  · exact rc_swI (t := 221) mq255 dw32 (by omega) (by rw [hsw]; rfl) rfl (lw_3 hG P I M hs B H32 nx)
  · exact rc_swI (t := 234) mq255 dw32 (by omega) (by rw [hsw]; rfl) rfl (lw_4 hG P I M hs B H32 nx)
  · exact rc_swI (t := 267) mq255 dw32 (by omega) (by rw [hsw]; rfl) rfl (lw_5 hG P I M hs B H32 nx)
  · exact rc_swI (t := 300) mq255 dw32 (by omega) (by rw [hsw]; rfl) rfl (lw_6 hG P I M hs B H32 nx)
  · exact rc_swI (t := 333) mq255 dw32 (by omega) (by rw [hsw]; rfl) rfl (lw_7 hG P I M hs B H32 nx)
  · exact rc_swI (t := 356) mq255 dw32 (by omega) (by rw [hsw]; rfl) rfl (lw_8 hG P I M hs B H32 nx)
  · exact rc_swI (t := 399) mq255 dw32 (by omega) (by rw [hsw]; rfl) rfl (lw_9 hG P I M hs B H32 nx)
  · exact rc_swI (t := 452) mq255 dw32 (by omega) (by rw [hsw]; rfl) rfl (lw_10 hG P I M hs B H32 nx)
  · exact rc_swI (t := 485) mq255 dw32 (by omega) (by rw [hsw]; rfl) rfl (lw_11 hG P I M hs B H32 nx)
  · exact rc_swI (t := 518) mq255 dw32 (by omega) (by rw [hsw]; rfl) rfl (lw_12 hG P I M hs B H32 nx)
  · exact rc_swI (t := 561) mq255 dw32 (by omega) (by rw [hsw]; rfl) rfl (lw_13 hG P I M hs B H32 nx)
  · exact rc_swI (t := 594) mq255 dw32 (by omega) (by rw [hsw]; rfl) rfl (lw_14 hG P I M hs B H32 nx)
  · exact rc_swI (t := 627) mq255 dw32 (by omega) (by rw [hsw]; rfl) rfl (lw_15 hG P I M hs B H32 nx)
  · exact rc_swI (t := 650) mq255 dw32 (by omega) (by rw [hsw]; rfl) rfl (lw_16 hG P I M hs B H32 nx)
  · exact rc_swI (t := 683) mq255 dw32 (by omega) (by rw [hsw]; rfl) rfl (lw_17 hG P I M hs B H32 nx)
  · exact rc_swI (t := 716) mq255 dw32 (by omega) (by rw [hsw]; rfl) rfl (lw_18 hG P I M hs B H32 nx)
  · exact rc_swI (t := 749) mq255 dw32 (by omega) (by rw [hsw]; rfl) rfl (lw_19 hG P I M hs B H32 nx)
  · exact rc_swI (t := 772) mq255 dw32 (by omega) (by rw [hsw]; rfl) rfl (lw_20 hG P I M hs B H32 nx)
  · exact rc_swI (t := 795) mq255 dw32 (by omega) (by rw [hsw]; rfl) rfl (lw_21 hG P I M hs B H32 nx)
  · exact rc_swI (t := 808) mq255 dw32 (by omega) (by rw [hsw]; rfl) rfl (lw_22 hG P I M hs B H32 nx)
  · exact rc_swI (t := 821) mq255 dw32 (by omega) (by rw [hsw]; rfl) rfl (lw_23 hG P I M hs B H32 nx)
  · exact rc_swI (t := 864) mq255 dw32 (by omega) (by rw [hsw]; rfl) rfl (lw_24 hG P I M hs B H32 nx)
  · exact rc_swI (t := 887) mq255 dw32 (by omega) (by rw [hsw]; rfl) rfl (lw_25 hG P I M hs B H32 nx)
  · exact rc_swI (t := 910) mq255 dw32 (by omega) (by rw [hsw]; rfl) rfl (lw_26 hG P I M hs B H32 nx)
  · exact rc_swI (t := 933) mq255 dw32 (by omega) (by rw [hsw]; rfl) rfl (lw_27 hG P I M hs B H32 nx)
  · exact rc_swI (t := 966) mq255 dw32 (by omega) (by rw [hsw]; rfl) rfl (lw_28 hG P I M hs B H32 nx)
  · exact rc_swI (t := 989) mq255 dw32 (by omega) (by rw [hsw]; rfl) rfl (lw_29 hG P I M hs B H32 nx)
  · exact rc_swI (t := 1012) mq255 dw32 (by omega) (by rw [hsw]; rfl) rfl (lw_30 hG P I M hs B H32 nx)
theorem lw_loop (H32 : ∀ k, mv32 (s2 k)) (hL : s2 (-1) = Ls) (L32 : 0 ≤ Ls ∧ Ls ≤ 2560) : ∀ (f : Nat) (i : Int), 0 ≤ i → i ≤ 2565 → 2565 - i < 5 * (f : Int) + 5 → ∀ (sw : Bool) (g : Nat → Nat → Nat) (h : Nat → Int → Int) (A : Sta), Gok sw g → StP A → InvC sw h A → InvM h A → h 2 = s2 → Rch 255 18 (lwL i) [] (97, g, h) lwQ := by
  intro f
  induction f with
  | zero =>
    intro i i0 i1 hf sw g h A hG P I M hs
    refine rc_iload_n mq255 dw18 rfl ?_
    refine rc_aload_n mq255 dw19 rfl ?_
    refine rc_alenS mq255 dw20 ?_
    rw [hs, hL]
    refine rc_iconst mq255 dw21 (by decide) ?_
    refine rc_isub mq255 dw22 ?_
    rw [mwi (z := Ls - 5) (by omega) (by omega)]
    refine rc_icmp_gt (t := 1032) mq255 dw23 rfl (fun _ => ?_) (fun z => by omega)
    refine rc_iconst mq255 dw1032 (by decide) ?_
    exact rc_zret (show mvMq 255 11 1 8 4 1 (some .boolean) from mq255) dw1033 (Or.inr rfl) ⟨rfl, rfl⟩
  | succ f ih =>
    intro i i0 i1 hf sw g h A hG P I M hs
    refine rc_iload_n mq255 dw18 rfl ?_
    refine rc_aload_n mq255 dw19 rfl ?_
    refine rc_alenS mq255 dw20 ?_
    rw [hs, hL]
    refine rc_iconst mq255 dw21 (by decide) ?_
    refine rc_isub mq255 dw22 ?_
    rw [mwi (z := Ls - 5) (by omega) (by omega)]
    refine rc_icmp_gt (t := 1032) mq255 dw23 rfl (fun _ => ?_) (fun z => ?_)
    · refine rc_iconst mq255 dw1032 (by decide) ?_
      exact rc_zret (show mvMq 255 11 1 8 4 1 (some .boolean) from mq255) dw1033 (Or.inr rfl) ⟨rfl, rfl⟩
    · refine lw_op hG P I M hs ⟨⟨i0, by omega, L32.2⟩, hL⟩ H32 (fun sw' g' h' A' hG' P' I' M' hs' => ?_)
      refine rc_iinc (lwL (mw (i + 5))) mq255 dw1026 rfl rfl ?_
      refine rc_goto (t := 18) mq255 dw1029 rfl ?_
      rw [mwi (z := i + 5) (by omega) (by omega)]
      exact ih (i + 5) (by omega) (by omega) (by omega) sw' g' h' A' hG' P' I' M' hs'
end LW
