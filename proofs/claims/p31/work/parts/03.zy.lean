/-! ===== the cells that the constructors make ===== -/
def zSx : List zC := [.inl (11, [some (some 1), none, some (some 3), some (some 4), none, none, none, none, some (some 22), some (some 24), some (some 43), some (some 64), some (some 69), some (some 88), some (some 97), some (some 100), some (some 109), some (some 111), none]), .inl (6, [some (some 2)]), .inr (.inl (0, 200)), .inr (.inr (2, [some 113, some 131, some 149, some 167, some 185, some 203, some 221, some 239, some 257, some 275, some 293, some 311, some 329, some 347, some 365, some 383, some 401, some 419, some 437, some 455, some 473])), .inl (2, [some (some 5), none, some (some 7), none, some (some 18), some (some 20), none, none, none]), .inl (6, [some (some 6)]), .inr (.inl (0, 300)), .inl (8, [some (some 8), some (some 10), some (some 12), some (some 14), some (some 16), none]), .inl (6, [some (some 9)]), .inr (.inl (0, 100)), .inl (6, [some (some 11)]), .inr (.inl (0, 100)), .inl (6, [some (some 13)]), .inr (.inl (0, 100)), .inl (6, [some (some 15)]), .inr (.inl (0, 100)), .inl (6, [some (some 17)]), .inr (.inl (0, 100)), .inl (6, [some (some 19)]), .inr (.inl (0, 100)), .inl (6, [some (some 21)]), .inr (.inl (0, 100)), .inl (6, [some (some 23)]), .inr (.inl (0, 10)), .inl (3, [some (some 25), some (some 27), some (some 29), some (some 31), some (some 33), some (some 35), some (some 37), some (some 39), some (some 41), none]), .inl (6, [some (some 26)]), .inr (.inl (0, 3400)), .inl (6, [some (some 28)]), .inr (.inl (0, 3400)), .inl (6, [some (some 30)]), .inr (.inl (0, 3400)), .inl (6, [some (some 32)]), .inr (.inl (0, 3400)), .inl (6, [some (some 34)]), .inr (.inl (0, 3400)), .inl (6, [some (some 36)]), .inr (.inl (0, 3400)), .inl (6, [some (some 38)]), .inr (.inl (0, 3400)), .inl (6, [some (some 40)]), .inr (.inl (0, 3400)), .inl (6, [some (some 42)]), .inr (.inl (0, 13600)), .inl (9, [some (some 24), some (some 44), some (some 46), some (some 48), some (some 50), some (some 52), some (some 54), some (some 56), some (some 58), some (some 60), some (some 62), none, none, none, none, none]), .inl (6, [some (some 45)]), .inr (.inl (0, 400)), .inl (6, [some (some 47)]), .inr (.inl (0, 3400)), .inl (6, [some (some 49)]), .inr (.inl (0, 400)), .inl (6, [some (some 51)]), .inr (.inl (0, 400)), .inl (6, [some (some 53)]), .inr (.inl (0, 400)), .inl (6, [some (some 55)]), .inr (.inl (0, 400)), .inl (6, [some (some 57)]), .inr (.inl (0, 400)), .inl (6, [some (some 59)]), .inr (.inl (0, 400)), .inl (6, [some (some 61)]), .inr (.inl (0, 11)), .inl (6, [some (some 63)]), .inr (.inl (0, 100)), .inl (1, [some (some 24), some (some 43), some (some 65), some (some 67), none, none, none, none, none, none, none, none, none, none]), .inl (6, [some (some 66)]), .inr (.inl (0, 300)), .inl (6, [some (some 68)]), .inr (.inl (0, 300)), .inl (7, [some (some 24), some (some 43), some (some 70), some (some 72), some (some 74), some (some 76), some (some 78), some (some 80), some (some 82), some (some 84), some (some 86), none, none, none, none, none, none]), .inl (6, [some (some 71)]), .inr (.inl (0, 100)), .inl (6, [some (some 73)]), .inr (.inl (0, 100)), .inl (6, [some (some 75)]), .inr (.inl (0, 100)), .inl (6, [some (some 77)]), .inr (.inl (0, 100)), .inl (6, [some (some 79)]), .inr (.inl (0, 100)), .inl (6, [some (some 81)]), .inr (.inl (0, 100)), .inl (6, [some (some 83)]), .inr (.inl (0, 400)), .inl (6, [some (some 85)]), .inr (.inl (0, 3400)), .inl (6, [some (some 87)]), .inr (.inl (0, 25600)), .inl (4, [some (some 89), some (some 91), some (some 93), some (some 95), none]), .inl (6, [some (some 90)]), .inr (.inl (0, 4000)), .inl (6, [some (some 92)]), .inr (.inl (0, 4000)), .inl (6, [some (some 94)]), .inr (.inl (0, 4000)), .inl (6, [some (some 96)]), .inr (.inl (0, 7400)), .inl (5, [some (some 24), some (some 98), none, none]), .inl (6, [some (some 99)]), .inr (.inl (0, 1000)), .inl (0, [some (some 101), some (some 104), some (some 107), none, none]), .inl (10, [some (some 102), none]), .inl (6, [some (some 103)]), .inr (.inl (0, 300)), .inl (10, [some (some 105), none]), .inl (6, [some (some 106)]), .inr (.inl (0, 300)), .inl (6, [some (some 108)]), .inr (.inl (0, 101)), .inl (6, [some (some 110)]), .inr (.inl (0, 700)), .inl (6, [some (some 112)]), .inr (.inl (0, 700)), .inl (2, [some (some 114), none, some (some 116), none, some (some 127), some (some 129), none, none, none]), .inl (6, [some (some 115)]), .inr (.inl (0, 300)), .inl (8, [some (some 117), some (some 119), some (some 121), some (some 123), some (some 125), none]), .inl (6, [some (some 118)]), .inr (.inl (0, 100)), .inl (6, [some (some 120)]), .inr (.inl (0, 100)), .inl (6, [some (some 122)]), .inr (.inl (0, 100)), .inl (6, [some (some 124)]), .inr (.inl (0, 100)), .inl (6, [some (some 126)]), .inr (.inl (0, 100)), .inl (6, [some (some 128)]), .inr (.inl (0, 100)), .inl (6, [some (some 130)]), .inr (.inl (0, 100)), .inl (2, [some (some 132), none, some (some 134), none, some (some 145), some (some 147), none, none, none]), .inl (6, [some (some 133)]), .inr (.inl (0, 300)), .inl (8, [some (some 135), some (some 137), some (some 139), some (some 141), some (some 143), none]), .inl (6, [some (some 136)]), .inr (.inl (0, 100)), .inl (6, [some (some 138)]), .inr (.inl (0, 100)), .inl (6, [some (some 140)]), .inr (.inl (0, 100)), .inl (6, [some (some 142)]), .inr (.inl (0, 100)), .inl (6, [some (some 144)]), .inr (.inl (0, 100)), .inl (6, [some (some 146)]), .inr (.inl (0, 100)), .inl (6, [some (some 148)]), .inr (.inl (0, 100)), .inl (2, [some (some 150), none, some (some 152), none, some (some 163), some (some 165), none, none, none]), .inl (6, [some (some 151)]), .inr (.inl (0, 300)), .inl (8, [some (some 153), some (some 155), some (some 157), some (some 159), some (some 161), none]), .inl (6, [some (some 154)]), .inr (.inl (0, 100)), .inl (6, [some (some 156)]), .inr (.inl (0, 100)), .inl (6, [some (some 158)]), .inr (.inl (0, 100)), .inl (6, [some (some 160)]), .inr (.inl (0, 100)), .inl (6, [some (some 162)]), .inr (.inl (0, 100)), .inl (6, [some (some 164)]), .inr (.inl (0, 100)), .inl (6, [some (some 166)]), .inr (.inl (0, 100)), .inl (2, [some (some 168), none, some (some 170), none, some (some 181), some (some 183), none, none, none]), .inl (6, [some (some 169)]), .inr (.inl (0, 300)), .inl (8, [some (some 171), some (some 173), some (some 175), some (some 177), some (some 179), none]), .inl (6, [some (some 172)]), .inr (.inl (0, 100)), .inl (6, [some (some 174)]), .inr (.inl (0, 100)), .inl (6, [some (some 176)]), .inr (.inl (0, 100)), .inl (6, [some (some 178)]), .inr (.inl (0, 100)), .inl (6, [some (some 180)]), .inr (.inl (0, 100)), .inl (6, [some (some 182)]), .inr (.inl (0, 100)), .inl (6, [some (some 184)]), .inr (.inl (0, 100)), .inl (2, [some (some 186), none, some (some 188), none, some (some 199), some (some 201), none, none, none]), .inl (6, [some (some 187)]), .inr (.inl (0, 300)), .inl (8, [some (some 189), some (some 191), some (some 193), some (some 195), some (some 197), none]), .inl (6, [some (some 190)]), .inr (.inl (0, 100)), .inl (6, [some (some 192)]), .inr (.inl (0, 100)), .inl (6, [some (some 194)]), .inr (.inl (0, 100)), .inl (6, [some (some 196)]), .inr (.inl (0, 100)), .inl (6, [some (some 198)]), .inr (.inl (0, 100)), .inl (6, [some (some 200)]), .inr (.inl (0, 100)), .inl (6, [some (some 202)]), .inr (.inl (0, 100)), .inl (2, [some (some 204), none, some (some 206), none, some (some 217), some (some 219), none, none, none]), .inl (6, [some (some 205)]), .inr (.inl (0, 300)), .inl (8, [some (some 207), some (some 209), some (some 211), some (some 213), some (some 215), none]), .inl (6, [some (some 208)]), .inr (.inl (0, 100)), .inl (6, [some (some 210)]), .inr (.inl (0, 100)), .inl (6, [some (some 212)]), .inr (.inl (0, 100)), .inl (6, [some (some 214)]), .inr (.inl (0, 100)), .inl (6, [some (some 216)]), .inr (.inl (0, 100)), .inl (6, [some (some 218)]), .inr (.inl (0, 100)), .inl (6, [some (some 220)]), .inr (.inl (0, 100)), .inl (2, [some (some 222), none, some (some 224), none, some (some 235), some (some 237), none, none, none]), .inl (6, [some (some 223)]), .inr (.inl (0, 300)), .inl (8, [some (some 225), some (some 227), some (some 229), some (some 231), some (some 233), none]), .inl (6, [some (some 226)]), .inr (.inl (0, 100)), .inl (6, [some (some 228)]), .inr (.inl (0, 100)), .inl (6, [some (some 230)]), .inr (.inl (0, 100)), .inl (6, [some (some 232)]), .inr (.inl (0, 100)), .inl (6, [some (some 234)]), .inr (.inl (0, 100)), .inl (6, [some (some 236)]), .inr (.inl (0, 100)), .inl (6, [some (some 238)]), .inr (.inl (0, 100)), .inl (2, [some (some 240), none, some (some 242), none, some (some 253), some (some 255), none, none, none]), .inl (6, [some (some 241)]), .inr (.inl (0, 300)), .inl (8, [some (some 243), some (some 245), some (some 247), some (some 249), some (some 251), none]), .inl (6, [some (some 244)]), .inr (.inl (0, 100)), .inl (6, [some (some 246)]), .inr (.inl (0, 100)), .inl (6, [some (some 248)]), .inr (.inl (0, 100)), .inl (6, [some (some 250)]), .inr (.inl (0, 100)), .inl (6, [some (some 252)]), .inr (.inl (0, 100)), .inl (6, [some (some 254)]), .inr (.inl (0, 100)), .inl (6, [some (some 256)]), .inr (.inl (0, 100)), .inl (2, [some (some 258), none, some (some 260), none, some (some 271), some (some 273), none, none, none]), .inl (6, [some (some 259)]), .inr (.inl (0, 300)), .inl (8, [some (some 261), some (some 263), some (some 265), some (some 267), some (some 269), none]), .inl (6, [some (some 262)]), .inr (.inl (0, 100)), .inl (6, [some (some 264)]), .inr (.inl (0, 100)), .inl (6, [some (some 266)]), .inr (.inl (0, 100)), .inl (6, [some (some 268)]), .inr (.inl (0, 100)), .inl (6, [some (some 270)]), .inr (.inl (0, 100)), .inl (6, [some (some 272)]), .inr (.inl (0, 100)), .inl (6, [some (some 274)]), .inr (.inl (0, 100)), .inl (2, [some (some 276), none, some (some 278), none, some (some 289), some (some 291), none, none, none]), .inl (6, [some (some 277)]), .inr (.inl (0, 300)), .inl (8, [some (some 279), some (some 281), some (some 283), some (some 285), some (some 287), none]), .inl (6, [some (some 280)]), .inr (.inl (0, 100)), .inl (6, [some (some 282)]), .inr (.inl (0, 100)), .inl (6, [some (some 284)]), .inr (.inl (0, 100)), .inl (6, [some (some 286)]), .inr (.inl (0, 100)), .inl (6, [some (some 288)]), .inr (.inl (0, 100)), .inl (6, [some (some 290)]), .inr (.inl (0, 100)), .inl (6, [some (some 292)]), .inr (.inl (0, 100)), .inl (2, [some (some 294), none, some (some 296), none, some (some 307), some (some 309), none, none, none]), .inl (6, [some (some 295)]), .inr (.inl (0, 300)), .inl (8, [some (some 297), some (some 299), some (some 301), some (some 303), some (some 305), none]), .inl (6, [some (some 298)]), .inr (.inl (0, 100)), .inl (6, [some (some 300)]), .inr (.inl (0, 100)), .inl (6, [some (some 302)]), .inr (.inl (0, 100)), .inl (6, [some (some 304)]), .inr (.inl (0, 100)), .inl (6, [some (some 306)]), .inr (.inl (0, 100)), .inl (6, [some (some 308)]), .inr (.inl (0, 100)), .inl (6, [some (some 310)]), .inr (.inl (0, 100)), .inl (2, [some (some 312), none, some (some 314), none, some (some 325), some (some 327), none, none, none]), .inl (6, [some (some 313)]), .inr (.inl (0, 300)), .inl (8, [some (some 315), some (some 317), some (some 319), some (some 321), some (some 323), none]), .inl (6, [some (some 316)]), .inr (.inl (0, 100)), .inl (6, [some (some 318)]), .inr (.inl (0, 100)), .inl (6, [some (some 320)]), .inr (.inl (0, 100)), .inl (6, [some (some 322)]), .inr (.inl (0, 100)), .inl (6, [some (some 324)]), .inr (.inl (0, 100)), .inl (6, [some (some 326)]), .inr (.inl (0, 100)), .inl (6, [some (some 328)]), .inr (.inl (0, 100)), .inl (2, [some (some 330), none, some (some 332), none, some (some 343), some (some 345), none, none, none]), .inl (6, [some (some 331)]), .inr (.inl (0, 300)), .inl (8, [some (some 333), some (some 335), some (some 337), some (some 339), some (some 341), none]), .inl (6, [some (some 334)]), .inr (.inl (0, 100)), .inl (6, [some (some 336)]), .inr (.inl (0, 100)), .inl (6, [some (some 338)]), .inr (.inl (0, 100)), .inl (6, [some (some 340)]), .inr (.inl (0, 100)), .inl (6, [some (some 342)]), .inr (.inl (0, 100)), .inl (6, [some (some 344)]), .inr (.inl (0, 100)), .inl (6, [some (some 346)]), .inr (.inl (0, 100)), .inl (2, [some (some 348), none, some (some 350), none, some (some 361), some (some 363), none, none, none]), .inl (6, [some (some 349)]), .inr (.inl (0, 300)), .inl (8, [some (some 351), some (some 353), some (some 355), some (some 357), some (some 359), none]), .inl (6, [some (some 352)]), .inr (.inl (0, 100)), .inl (6, [some (some 354)]), .inr (.inl (0, 100)), .inl (6, [some (some 356)]), .inr (.inl (0, 100)), .inl (6, [some (some 358)]), .inr (.inl (0, 100)), .inl (6, [some (some 360)]), .inr (.inl (0, 100)), .inl (6, [some (some 362)]), .inr (.inl (0, 100)), .inl (6, [some (some 364)]), .inr (.inl (0, 100)), .inl (2, [some (some 366), none, some (some 368), none, some (some 379), some (some 381), none, none, none]), .inl (6, [some (some 367)]), .inr (.inl (0, 300)), .inl (8, [some (some 369), some (some 371), some (some 373), some (some 375), some (some 377), none]), .inl (6, [some (some 370)]), .inr (.inl (0, 100)), .inl (6, [some (some 372)]), .inr (.inl (0, 100)), .inl (6, [some (some 374)]), .inr (.inl (0, 100)), .inl (6, [some (some 376)]), .inr (.inl (0, 100)), .inl (6, [some (some 378)]), .inr (.inl (0, 100)), .inl (6, [some (some 380)]), .inr (.inl (0, 100)), .inl (6, [some (some 382)]), .inr (.inl (0, 100)), .inl (2, [some (some 384), none, some (some 386), none, some (some 397), some (some 399), none, none, none]), .inl (6, [some (some 385)]), .inr (.inl (0, 300)), .inl (8, [some (some 387), some (some 389), some (some 391), some (some 393), some (some 395), none]), .inl (6, [some (some 388)]), .inr (.inl (0, 100)), .inl (6, [some (some 390)]), .inr (.inl (0, 100)), .inl (6, [some (some 392)]), .inr (.inl (0, 100)), .inl (6, [some (some 394)]), .inr (.inl (0, 100)), .inl (6, [some (some 396)]), .inr (.inl (0, 100)), .inl (6, [some (some 398)]), .inr (.inl (0, 100)), .inl (6, [some (some 400)]), .inr (.inl (0, 100)), .inl (2, [some (some 402), none, some (some 404), none, some (some 415), some (some 417), none, none, none]), .inl (6, [some (some 403)]), .inr (.inl (0, 300)), .inl (8, [some (some 405), some (some 407), some (some 409), some (some 411), some (some 413), none]), .inl (6, [some (some 406)]), .inr (.inl (0, 100)), .inl (6, [some (some 408)]), .inr (.inl (0, 100)), .inl (6, [some (some 410)]), .inr (.inl (0, 100)), .inl (6, [some (some 412)]), .inr (.inl (0, 100)), .inl (6, [some (some 414)]), .inr (.inl (0, 100)), .inl (6, [some (some 416)]), .inr (.inl (0, 100)), .inl (6, [some (some 418)]), .inr (.inl (0, 100)), .inl (2, [some (some 420), none, some (some 422), none, some (some 433), some (some 435), none, none, none]), .inl (6, [some (some 421)]), .inr (.inl (0, 300)), .inl (8, [some (some 423), some (some 425), some (some 427), some (some 429), some (some 431), none]), .inl (6, [some (some 424)]), .inr (.inl (0, 100)), .inl (6, [some (some 426)]), .inr (.inl (0, 100)), .inl (6, [some (some 428)]), .inr (.inl (0, 100)), .inl (6, [some (some 430)]), .inr (.inl (0, 100)), .inl (6, [some (some 432)]), .inr (.inl (0, 100)), .inl (6, [some (some 434)]), .inr (.inl (0, 100)), .inl (6, [some (some 436)]), .inr (.inl (0, 100)), .inl (2, [some (some 438), none, some (some 440), none, some (some 451), some (some 453), none, none, none]), .inl (6, [some (some 439)]), .inr (.inl (0, 300)), .inl (8, [some (some 441), some (some 443), some (some 445), some (some 447), some (some 449), none]), .inl (6, [some (some 442)]), .inr (.inl (0, 100)), .inl (6, [some (some 444)]), .inr (.inl (0, 100)), .inl (6, [some (some 446)]), .inr (.inl (0, 100)), .inl (6, [some (some 448)]), .inr (.inl (0, 100)), .inl (6, [some (some 450)]), .inr (.inl (0, 100)), .inl (6, [some (some 452)]), .inr (.inl (0, 100)), .inl (6, [some (some 454)]), .inr (.inl (0, 100)), .inl (2, [some (some 456), none, some (some 458), none, some (some 469), some (some 471), none, none, none]), .inl (6, [some (some 457)]), .inr (.inl (0, 300)), .inl (8, [some (some 459), some (some 461), some (some 463), some (some 465), some (some 467), none]), .inl (6, [some (some 460)]), .inr (.inl (0, 100)), .inl (6, [some (some 462)]), .inr (.inl (0, 100)), .inl (6, [some (some 464)]), .inr (.inl (0, 100)), .inl (6, [some (some 466)]), .inr (.inl (0, 100)), .inl (6, [some (some 468)]), .inr (.inl (0, 100)), .inl (6, [some (some 470)]), .inr (.inl (0, 100)), .inl (6, [some (some 472)]), .inr (.inl (0, 100)), .inl (2, [some (some 474), none, some (some 476), none, some (some 487), some (some 489), none, none, none]), .inl (6, [some (some 475)]), .inr (.inl (0, 300)), .inl (8, [some (some 477), some (some 479), some (some 481), some (some 483), some (some 485), none]), .inl (6, [some (some 478)]), .inr (.inl (0, 100)), .inl (6, [some (some 480)]), .inr (.inl (0, 100)), .inl (6, [some (some 482)]), .inr (.inl (0, 100)), .inl (6, [some (some 484)]), .inr (.inl (0, 100)), .inl (6, [some (some 486)]), .inr (.inl (0, 100)), .inl (6, [some (some 488)]), .inr (.inl (0, 100)), .inl (6, [some (some 490)]), .inr (.inl (0, 100))]
def zSm : List zC := [.inl (12, [none, some (some 492), some (some 493), none, some (some 494), none, some (some 495), none, none, none, some (some 496), some (some 497), some (some 498), some (some 499), some (some 500), none, some (some 501), some (some 502), some (some 503), none, some (some 504), some (some 505), some (some 506), some (some 507), some (some 508), none, some (some 509), some (some 510), some (some 511), some (some 512), some (some 513), some (some 514), some (some 515), some (some 516), some (some 517), some (some 518), none, none, some (some 519), none, some (some 520), none, none, none, some (some 521), some (some 522), some (some 523), some (some 524), some (some 525), some (some 526), some (some 527), none, some (some 528), none, some (some 529), none, some (some 530), some (some 531), some (some 532), none, some (some 533), some (some 534), some (some 535), some (some 536), some (some 537), none, none, none, some (some 538), some (some 539), some (some 540), none, none, none, some (some 541), none, none, some (some 542), some (some 543), some (some 544), none, some (some 545)]), .inr (.inl (0, 220)), .inr (.inl (0, 700)), .inr (.inl (0, 300)), .inr (.inl (0, 300)), .inr (.inl (0, 710)), .inr (.inl (0, 710)), .inr (.inl (0, 710)), .inr (.inl (1, 710)), .inr (.inl (0, 110)), .inr (.inl (0, 110)), .inr (.inl (0, 110)), .inr (.inl (0, 110)), .inr (.inl (0, 110)), .inr (.inl (0, 110)), .inr (.inl (0, 110)), .inr (.inl (1, 110)), .inr (.inl (0, 110)), .inr (.inl (0, 3700)), .inr (.inl (0, 3700)), .inr (.inl (1, 3700)), .inr (.inl (0, 3700)), .inr (.inl (0, 14800)), .inr (.inl (0, 3700)), .inr (.inl (0, 3700)), .inr (.inl (0, 3700)), .inr (.inl (0, 3700)), .inr (.inl (0, 185000)), .inr (.inl (0, 400)), .inr (.inl (0, 120)), .inr (.inl (0, 700)), .inr (.inl (0, 700)), .inr (.inl (0, 3700)), .inr (.inl (0, 3700)), .inr (.inl (0, 3700)), .inr (.inl (0, 3700)), .inr (.inl (0, 700)), .inr (.inl (0, 110)), .inr (.inl (0, 110)), .inr (.inl (1, 60)), .inr (.inl (0, 60)), .inr (.inl (0, 3700)), .inr (.inl (0, 4100)), .inr (.inl (0, 4100)), .inr (.inl (0, 20)), .inr (.inl (0, 20)), .inr (.inl (0, 20)), .inr (.inl (0, 10)), .inr (.inl (0, 400)), .inr (.inl (0, 400)), .inr (.inl (0, 700)), .inr (.inl (0, 15120)), .inr (.inl (0, 700)), .inr (.inl (0, 1000)), .inr (.inl (0, 1000))]
def zS0 : List zC := zSx ++ zSm
set_option maxRecDepth 100000 in
theorem zSx_len : zSx.length = 491 := by decide +kernel
def zOkX (S : List zC) : Prop := ∀ (k : Nat) (x : zC), zSx[k]? = some x → S[k]? = some x
def zOkM (S : List zC) : Prop := ∀ (k : Nat) (x : zC), zS0[k]? = some x → S[k]? = some x
abbrev zIsRow (S : List zC) (k n : Nat) : Prop := S[k]? = some (.inl (6, [some (some (k + 1))])) ∧ S[k + 1]? = some (.inr (.inl (0, n)))
abbrev zIsTokens (S : List zC) (k : Nat) : Prop := S[k]? = some (.inl (8, [some (some (k + 1)), some (some (k + 3)), some (some (k + 5)), some (some (k + 7)), some (some (k + 9)), none])) ∧ zIsRow S (k + 1) 100 ∧ zIsRow S (k + 3) 100 ∧ zIsRow S (k + 5) 100 ∧ zIsRow S (k + 7) 100 ∧ zIsRow S (k + 9) 100
abbrev zIsMoment (S : List zC) (k : Nat) : Prop := S[k]? = some (.inl (2, [some (some (k + 1)), none, some (some (k + 3)), none, some (some (k + 14)), some (some (k + 16)), none, none, none])) ∧ zIsRow S (k + 1) 300 ∧ zIsTokens S (k + 3) ∧ zIsRow S (k + 14) 100 ∧ zIsRow S (k + 16) 100
abbrev zIsTrial (S : List zC) (k : Nat) : Prop := S[k]? = some (.inl (10, [some (some (k + 1)), none])) ∧ zIsRow S (k + 1) 300
theorem zIsRow.of {S : List zC} (h : zOkX S) {k n : Nat} (q : zIsRow zSx k n) : zIsRow S k n := ⟨h _ _ q.1, h _ _ q.2⟩
theorem zIsTokens.of {S : List zC} (h : zOkX S) {k : Nat} (q : zIsTokens zSx k) : zIsTokens S k := ⟨h _ _ q.1, .of h q.2.1, .of h q.2.2.1, .of h q.2.2.2.1, .of h q.2.2.2.2.1, .of h q.2.2.2.2.2⟩
theorem zIsMoment.of {S : List zC} (h : zOkX S) {k : Nat} (q : zIsMoment zSx k) : zIsMoment S k := ⟨h _ _ q.1, .of h q.2.1, .of h q.2.2.1, .of h q.2.2.2.1, .of h q.2.2.2.2⟩
theorem zIsTrial.of {S : List zC} (h : zOkX S) {k : Nat} (q : zIsTrial zSx k) : zIsTrial S k := ⟨h _ _ q.1, .of h q.2⟩
theorem zOkM.x {S : List zC} (h : zOkM S) : zOkX S := fun k x q => h k x (by
  unfold zS0
  have hl := (List.getElem?_eq_some_iff.mp q).1
  rw [List.getElem?_append_left hl]
  exact q)
theorem zOkX_self : zOkX zSx := fun _ _ q => q
theorem zOkM_self : zOkM zS0 := fun _ _ q => q
def zmom (i : Nat) : Nat := 113 + 18 * i
set_option maxRecDepth 10000 in
theorem zs_113 : zSx[113]? = some (.inl (2, [some (some 114), none, some (some 116), none, some (some 127), some (some 129), none, none, none])) := by decide +kernel
set_option maxRecDepth 10000 in
theorem zs_114 : zSx[114]? = some (.inl (6, [some (some 115)])) := by decide +kernel
set_option maxRecDepth 10000 in
theorem zs_115 : zSx[115]? = some (.inr (.inl (0, 300))) := by decide +kernel
set_option maxRecDepth 10000 in
theorem zs_116 : zSx[116]? = some (.inl (8, [some (some 117), some (some 119), some (some 121), some (some 123), some (some 125), none])) := by decide +kernel
set_option maxRecDepth 10000 in
theorem zs_117 : zSx[117]? = some (.inl (6, [some (some 118)])) := by decide +kernel
set_option maxRecDepth 10000 in
theorem zs_118 : zSx[118]? = some (.inr (.inl (0, 100))) := by decide +kernel
set_option maxRecDepth 10000 in
theorem zs_119 : zSx[119]? = some (.inl (6, [some (some 120)])) := by decide +kernel
set_option maxRecDepth 10000 in
theorem zs_120 : zSx[120]? = some (.inr (.inl (0, 100))) := by decide +kernel
set_option maxRecDepth 10000 in
theorem zs_121 : zSx[121]? = some (.inl (6, [some (some 122)])) := by decide +kernel
set_option maxRecDepth 10000 in
theorem zs_122 : zSx[122]? = some (.inr (.inl (0, 100))) := by decide +kernel
set_option maxRecDepth 10000 in
theorem zs_123 : zSx[123]? = some (.inl (6, [some (some 124)])) := by decide +kernel
set_option maxRecDepth 10000 in
theorem zs_124 : zSx[124]? = some (.inr (.inl (0, 100))) := by decide +kernel
set_option maxRecDepth 10000 in
theorem zs_125 : zSx[125]? = some (.inl (6, [some (some 126)])) := by decide +kernel
set_option maxRecDepth 10000 in
theorem zs_126 : zSx[126]? = some (.inr (.inl (0, 100))) := by decide +kernel
set_option maxRecDepth 10000 in
theorem zs_127 : zSx[127]? = some (.inl (6, [some (some 128)])) := by decide +kernel
set_option maxRecDepth 10000 in
theorem zs_128 : zSx[128]? = some (.inr (.inl (0, 100))) := by decide +kernel
set_option maxRecDepth 10000 in
theorem zs_129 : zSx[129]? = some (.inl (6, [some (some 130)])) := by decide +kernel
set_option maxRecDepth 10000 in
theorem zs_130 : zSx[130]? = some (.inr (.inl (0, 100))) := by decide +kernel
set_option maxRecDepth 10000 in
theorem zs_131 : zSx[131]? = some (.inl (2, [some (some 132), none, some (some 134), none, some (some 145), some (some 147), none, none, none])) := by decide +kernel
set_option maxRecDepth 10000 in
theorem zs_132 : zSx[132]? = some (.inl (6, [some (some 133)])) := by decide +kernel
set_option maxRecDepth 10000 in
theorem zs_133 : zSx[133]? = some (.inr (.inl (0, 300))) := by decide +kernel
set_option maxRecDepth 10000 in
theorem zs_134 : zSx[134]? = some (.inl (8, [some (some 135), some (some 137), some (some 139), some (some 141), some (some 143), none])) := by decide +kernel
set_option maxRecDepth 10000 in
theorem zs_135 : zSx[135]? = some (.inl (6, [some (some 136)])) := by decide +kernel
set_option maxRecDepth 10000 in
theorem zs_136 : zSx[136]? = some (.inr (.inl (0, 100))) := by decide +kernel
set_option maxRecDepth 10000 in
theorem zs_137 : zSx[137]? = some (.inl (6, [some (some 138)])) := by decide +kernel
set_option maxRecDepth 10000 in
theorem zs_138 : zSx[138]? = some (.inr (.inl (0, 100))) := by decide +kernel
set_option maxRecDepth 10000 in
theorem zs_139 : zSx[139]? = some (.inl (6, [some (some 140)])) := by decide +kernel
set_option maxRecDepth 10000 in
theorem zs_140 : zSx[140]? = some (.inr (.inl (0, 100))) := by decide +kernel
set_option maxRecDepth 10000 in
theorem zs_141 : zSx[141]? = some (.inl (6, [some (some 142)])) := by decide +kernel
set_option maxRecDepth 10000 in
theorem zs_142 : zSx[142]? = some (.inr (.inl (0, 100))) := by decide +kernel
set_option maxRecDepth 10000 in
theorem zs_143 : zSx[143]? = some (.inl (6, [some (some 144)])) := by decide +kernel
set_option maxRecDepth 10000 in
theorem zs_144 : zSx[144]? = some (.inr (.inl (0, 100))) := by decide +kernel
set_option maxRecDepth 10000 in
theorem zs_145 : zSx[145]? = some (.inl (6, [some (some 146)])) := by decide +kernel
set_option maxRecDepth 10000 in
theorem zs_146 : zSx[146]? = some (.inr (.inl (0, 100))) := by decide +kernel
set_option maxRecDepth 10000 in
theorem zs_147 : zSx[147]? = some (.inl (6, [some (some 148)])) := by decide +kernel
set_option maxRecDepth 10000 in
theorem zs_148 : zSx[148]? = some (.inr (.inl (0, 100))) := by decide +kernel
set_option maxRecDepth 10000 in
theorem zs_149 : zSx[149]? = some (.inl (2, [some (some 150), none, some (some 152), none, some (some 163), some (some 165), none, none, none])) := by decide +kernel
set_option maxRecDepth 10000 in
theorem zs_150 : zSx[150]? = some (.inl (6, [some (some 151)])) := by decide +kernel
set_option maxRecDepth 10000 in
theorem zs_151 : zSx[151]? = some (.inr (.inl (0, 300))) := by decide +kernel
set_option maxRecDepth 10000 in
theorem zs_152 : zSx[152]? = some (.inl (8, [some (some 153), some (some 155), some (some 157), some (some 159), some (some 161), none])) := by decide +kernel
set_option maxRecDepth 10000 in
theorem zs_153 : zSx[153]? = some (.inl (6, [some (some 154)])) := by decide +kernel
set_option maxRecDepth 10000 in
theorem zs_154 : zSx[154]? = some (.inr (.inl (0, 100))) := by decide +kernel
set_option maxRecDepth 10000 in
theorem zs_155 : zSx[155]? = some (.inl (6, [some (some 156)])) := by decide +kernel
set_option maxRecDepth 10000 in
theorem zs_156 : zSx[156]? = some (.inr (.inl (0, 100))) := by decide +kernel
set_option maxRecDepth 10000 in
theorem zs_157 : zSx[157]? = some (.inl (6, [some (some 158)])) := by decide +kernel
set_option maxRecDepth 10000 in
theorem zs_158 : zSx[158]? = some (.inr (.inl (0, 100))) := by decide +kernel
set_option maxRecDepth 10000 in
theorem zs_159 : zSx[159]? = some (.inl (6, [some (some 160)])) := by decide +kernel
set_option maxRecDepth 10000 in
theorem zs_160 : zSx[160]? = some (.inr (.inl (0, 100))) := by decide +kernel
set_option maxRecDepth 10000 in
theorem zs_161 : zSx[161]? = some (.inl (6, [some (some 162)])) := by decide +kernel
set_option maxRecDepth 10000 in
theorem zs_162 : zSx[162]? = some (.inr (.inl (0, 100))) := by decide +kernel
set_option maxRecDepth 10000 in
theorem zs_163 : zSx[163]? = some (.inl (6, [some (some 164)])) := by decide +kernel
set_option maxRecDepth 10000 in
theorem zs_164 : zSx[164]? = some (.inr (.inl (0, 100))) := by decide +kernel
set_option maxRecDepth 10000 in
theorem zs_165 : zSx[165]? = some (.inl (6, [some (some 166)])) := by decide +kernel
set_option maxRecDepth 10000 in
theorem zs_166 : zSx[166]? = some (.inr (.inl (0, 100))) := by decide +kernel
set_option maxRecDepth 10000 in
theorem zs_167 : zSx[167]? = some (.inl (2, [some (some 168), none, some (some 170), none, some (some 181), some (some 183), none, none, none])) := by decide +kernel
set_option maxRecDepth 10000 in
theorem zs_168 : zSx[168]? = some (.inl (6, [some (some 169)])) := by decide +kernel
set_option maxRecDepth 10000 in
theorem zs_169 : zSx[169]? = some (.inr (.inl (0, 300))) := by decide +kernel
set_option maxRecDepth 10000 in
theorem zs_170 : zSx[170]? = some (.inl (8, [some (some 171), some (some 173), some (some 175), some (some 177), some (some 179), none])) := by decide +kernel
set_option maxRecDepth 10000 in
theorem zs_171 : zSx[171]? = some (.inl (6, [some (some 172)])) := by decide +kernel
set_option maxRecDepth 10000 in
theorem zs_172 : zSx[172]? = some (.inr (.inl (0, 100))) := by decide +kernel
set_option maxRecDepth 10000 in
theorem zs_173 : zSx[173]? = some (.inl (6, [some (some 174)])) := by decide +kernel
set_option maxRecDepth 10000 in
theorem zs_174 : zSx[174]? = some (.inr (.inl (0, 100))) := by decide +kernel
set_option maxRecDepth 10000 in
theorem zs_175 : zSx[175]? = some (.inl (6, [some (some 176)])) := by decide +kernel
set_option maxRecDepth 10000 in
theorem zs_176 : zSx[176]? = some (.inr (.inl (0, 100))) := by decide +kernel
set_option maxRecDepth 10000 in
theorem zs_177 : zSx[177]? = some (.inl (6, [some (some 178)])) := by decide +kernel
set_option maxRecDepth 10000 in
theorem zs_178 : zSx[178]? = some (.inr (.inl (0, 100))) := by decide +kernel
set_option maxRecDepth 10000 in
theorem zs_179 : zSx[179]? = some (.inl (6, [some (some 180)])) := by decide +kernel
set_option maxRecDepth 10000 in
theorem zs_180 : zSx[180]? = some (.inr (.inl (0, 100))) := by decide +kernel
set_option maxRecDepth 10000 in
theorem zs_181 : zSx[181]? = some (.inl (6, [some (some 182)])) := by decide +kernel
set_option maxRecDepth 10000 in
theorem zs_182 : zSx[182]? = some (.inr (.inl (0, 100))) := by decide +kernel
set_option maxRecDepth 10000 in
theorem zs_183 : zSx[183]? = some (.inl (6, [some (some 184)])) := by decide +kernel
set_option maxRecDepth 10000 in
theorem zs_184 : zSx[184]? = some (.inr (.inl (0, 100))) := by decide +kernel
set_option maxRecDepth 10000 in
theorem zs_185 : zSx[185]? = some (.inl (2, [some (some 186), none, some (some 188), none, some (some 199), some (some 201), none, none, none])) := by decide +kernel
set_option maxRecDepth 10000 in
theorem zs_186 : zSx[186]? = some (.inl (6, [some (some 187)])) := by decide +kernel
set_option maxRecDepth 10000 in
theorem zs_187 : zSx[187]? = some (.inr (.inl (0, 300))) := by decide +kernel
set_option maxRecDepth 10000 in
theorem zs_188 : zSx[188]? = some (.inl (8, [some (some 189), some (some 191), some (some 193), some (some 195), some (some 197), none])) := by decide +kernel
set_option maxRecDepth 10000 in
theorem zs_189 : zSx[189]? = some (.inl (6, [some (some 190)])) := by decide +kernel
set_option maxRecDepth 10000 in
theorem zs_190 : zSx[190]? = some (.inr (.inl (0, 100))) := by decide +kernel
set_option maxRecDepth 10000 in
theorem zs_191 : zSx[191]? = some (.inl (6, [some (some 192)])) := by decide +kernel
set_option maxRecDepth 10000 in
theorem zs_192 : zSx[192]? = some (.inr (.inl (0, 100))) := by decide +kernel
set_option maxRecDepth 10000 in
theorem zs_193 : zSx[193]? = some (.inl (6, [some (some 194)])) := by decide +kernel
set_option maxRecDepth 10000 in
theorem zs_194 : zSx[194]? = some (.inr (.inl (0, 100))) := by decide +kernel
set_option maxRecDepth 10000 in
theorem zs_195 : zSx[195]? = some (.inl (6, [some (some 196)])) := by decide +kernel
set_option maxRecDepth 10000 in
theorem zs_196 : zSx[196]? = some (.inr (.inl (0, 100))) := by decide +kernel
set_option maxRecDepth 10000 in
theorem zs_197 : zSx[197]? = some (.inl (6, [some (some 198)])) := by decide +kernel
set_option maxRecDepth 10000 in
theorem zs_198 : zSx[198]? = some (.inr (.inl (0, 100))) := by decide +kernel
set_option maxRecDepth 10000 in
theorem zs_199 : zSx[199]? = some (.inl (6, [some (some 200)])) := by decide +kernel
set_option maxRecDepth 10000 in
theorem zs_200 : zSx[200]? = some (.inr (.inl (0, 100))) := by decide +kernel
set_option maxRecDepth 10000 in
theorem zs_201 : zSx[201]? = some (.inl (6, [some (some 202)])) := by decide +kernel
set_option maxRecDepth 10000 in
theorem zs_202 : zSx[202]? = some (.inr (.inl (0, 100))) := by decide +kernel
set_option maxRecDepth 10000 in
theorem zs_203 : zSx[203]? = some (.inl (2, [some (some 204), none, some (some 206), none, some (some 217), some (some 219), none, none, none])) := by decide +kernel
set_option maxRecDepth 10000 in
theorem zs_204 : zSx[204]? = some (.inl (6, [some (some 205)])) := by decide +kernel
set_option maxRecDepth 10000 in
theorem zs_205 : zSx[205]? = some (.inr (.inl (0, 300))) := by decide +kernel
set_option maxRecDepth 10000 in
theorem zs_206 : zSx[206]? = some (.inl (8, [some (some 207), some (some 209), some (some 211), some (some 213), some (some 215), none])) := by decide +kernel
set_option maxRecDepth 10000 in
theorem zs_207 : zSx[207]? = some (.inl (6, [some (some 208)])) := by decide +kernel
set_option maxRecDepth 10000 in
theorem zs_208 : zSx[208]? = some (.inr (.inl (0, 100))) := by decide +kernel
set_option maxRecDepth 10000 in
theorem zs_209 : zSx[209]? = some (.inl (6, [some (some 210)])) := by decide +kernel
set_option maxRecDepth 10000 in
theorem zs_210 : zSx[210]? = some (.inr (.inl (0, 100))) := by decide +kernel
set_option maxRecDepth 10000 in
theorem zs_211 : zSx[211]? = some (.inl (6, [some (some 212)])) := by decide +kernel
set_option maxRecDepth 10000 in
theorem zs_212 : zSx[212]? = some (.inr (.inl (0, 100))) := by decide +kernel
set_option maxRecDepth 10000 in
theorem zs_213 : zSx[213]? = some (.inl (6, [some (some 214)])) := by decide +kernel
set_option maxRecDepth 10000 in
theorem zs_214 : zSx[214]? = some (.inr (.inl (0, 100))) := by decide +kernel
set_option maxRecDepth 10000 in
theorem zs_215 : zSx[215]? = some (.inl (6, [some (some 216)])) := by decide +kernel
set_option maxRecDepth 10000 in
theorem zs_216 : zSx[216]? = some (.inr (.inl (0, 100))) := by decide +kernel
set_option maxRecDepth 10000 in
theorem zs_217 : zSx[217]? = some (.inl (6, [some (some 218)])) := by decide +kernel
set_option maxRecDepth 10000 in
theorem zs_218 : zSx[218]? = some (.inr (.inl (0, 100))) := by decide +kernel
set_option maxRecDepth 10000 in
theorem zs_219 : zSx[219]? = some (.inl (6, [some (some 220)])) := by decide +kernel
set_option maxRecDepth 10000 in
theorem zs_220 : zSx[220]? = some (.inr (.inl (0, 100))) := by decide +kernel
set_option maxRecDepth 10000 in
theorem zs_221 : zSx[221]? = some (.inl (2, [some (some 222), none, some (some 224), none, some (some 235), some (some 237), none, none, none])) := by decide +kernel
set_option maxRecDepth 10000 in
theorem zs_222 : zSx[222]? = some (.inl (6, [some (some 223)])) := by decide +kernel
set_option maxRecDepth 10000 in
theorem zs_223 : zSx[223]? = some (.inr (.inl (0, 300))) := by decide +kernel
set_option maxRecDepth 10000 in
theorem zs_224 : zSx[224]? = some (.inl (8, [some (some 225), some (some 227), some (some 229), some (some 231), some (some 233), none])) := by decide +kernel
set_option maxRecDepth 10000 in
theorem zs_225 : zSx[225]? = some (.inl (6, [some (some 226)])) := by decide +kernel
set_option maxRecDepth 10000 in
theorem zs_226 : zSx[226]? = some (.inr (.inl (0, 100))) := by decide +kernel
set_option maxRecDepth 10000 in
theorem zs_227 : zSx[227]? = some (.inl (6, [some (some 228)])) := by decide +kernel
set_option maxRecDepth 10000 in
theorem zs_228 : zSx[228]? = some (.inr (.inl (0, 100))) := by decide +kernel
set_option maxRecDepth 10000 in
theorem zs_229 : zSx[229]? = some (.inl (6, [some (some 230)])) := by decide +kernel
set_option maxRecDepth 10000 in
theorem zs_230 : zSx[230]? = some (.inr (.inl (0, 100))) := by decide +kernel
set_option maxRecDepth 10000 in
theorem zs_231 : zSx[231]? = some (.inl (6, [some (some 232)])) := by decide +kernel
set_option maxRecDepth 10000 in
theorem zs_232 : zSx[232]? = some (.inr (.inl (0, 100))) := by decide +kernel
set_option maxRecDepth 10000 in
theorem zs_233 : zSx[233]? = some (.inl (6, [some (some 234)])) := by decide +kernel
set_option maxRecDepth 10000 in
theorem zs_234 : zSx[234]? = some (.inr (.inl (0, 100))) := by decide +kernel
set_option maxRecDepth 10000 in
theorem zs_235 : zSx[235]? = some (.inl (6, [some (some 236)])) := by decide +kernel
set_option maxRecDepth 10000 in
theorem zs_236 : zSx[236]? = some (.inr (.inl (0, 100))) := by decide +kernel
set_option maxRecDepth 10000 in
theorem zs_237 : zSx[237]? = some (.inl (6, [some (some 238)])) := by decide +kernel
set_option maxRecDepth 10000 in
theorem zs_238 : zSx[238]? = some (.inr (.inl (0, 100))) := by decide +kernel
set_option maxRecDepth 10000 in
theorem zs_239 : zSx[239]? = some (.inl (2, [some (some 240), none, some (some 242), none, some (some 253), some (some 255), none, none, none])) := by decide +kernel
set_option maxRecDepth 10000 in
theorem zs_240 : zSx[240]? = some (.inl (6, [some (some 241)])) := by decide +kernel
set_option maxRecDepth 10000 in
theorem zs_241 : zSx[241]? = some (.inr (.inl (0, 300))) := by decide +kernel
set_option maxRecDepth 10000 in
theorem zs_242 : zSx[242]? = some (.inl (8, [some (some 243), some (some 245), some (some 247), some (some 249), some (some 251), none])) := by decide +kernel
set_option maxRecDepth 10000 in
theorem zs_243 : zSx[243]? = some (.inl (6, [some (some 244)])) := by decide +kernel
set_option maxRecDepth 10000 in
theorem zs_244 : zSx[244]? = some (.inr (.inl (0, 100))) := by decide +kernel
set_option maxRecDepth 10000 in
theorem zs_245 : zSx[245]? = some (.inl (6, [some (some 246)])) := by decide +kernel
set_option maxRecDepth 10000 in
theorem zs_246 : zSx[246]? = some (.inr (.inl (0, 100))) := by decide +kernel
set_option maxRecDepth 10000 in
theorem zs_247 : zSx[247]? = some (.inl (6, [some (some 248)])) := by decide +kernel
set_option maxRecDepth 10000 in
theorem zs_248 : zSx[248]? = some (.inr (.inl (0, 100))) := by decide +kernel
set_option maxRecDepth 10000 in
theorem zs_249 : zSx[249]? = some (.inl (6, [some (some 250)])) := by decide +kernel
set_option maxRecDepth 10000 in
theorem zs_250 : zSx[250]? = some (.inr (.inl (0, 100))) := by decide +kernel
set_option maxRecDepth 10000 in
theorem zs_251 : zSx[251]? = some (.inl (6, [some (some 252)])) := by decide +kernel
set_option maxRecDepth 10000 in
theorem zs_252 : zSx[252]? = some (.inr (.inl (0, 100))) := by decide +kernel
set_option maxRecDepth 10000 in
theorem zs_253 : zSx[253]? = some (.inl (6, [some (some 254)])) := by decide +kernel
set_option maxRecDepth 10000 in
theorem zs_254 : zSx[254]? = some (.inr (.inl (0, 100))) := by decide +kernel
set_option maxRecDepth 10000 in
theorem zs_255 : zSx[255]? = some (.inl (6, [some (some 256)])) := by decide +kernel
set_option maxRecDepth 10000 in
theorem zs_256 : zSx[256]? = some (.inr (.inl (0, 100))) := by decide +kernel
set_option maxRecDepth 10000 in
theorem zs_257 : zSx[257]? = some (.inl (2, [some (some 258), none, some (some 260), none, some (some 271), some (some 273), none, none, none])) := by decide +kernel
set_option maxRecDepth 10000 in
theorem zs_258 : zSx[258]? = some (.inl (6, [some (some 259)])) := by decide +kernel
set_option maxRecDepth 10000 in
theorem zs_259 : zSx[259]? = some (.inr (.inl (0, 300))) := by decide +kernel
set_option maxRecDepth 10000 in
theorem zs_260 : zSx[260]? = some (.inl (8, [some (some 261), some (some 263), some (some 265), some (some 267), some (some 269), none])) := by decide +kernel
set_option maxRecDepth 10000 in
theorem zs_261 : zSx[261]? = some (.inl (6, [some (some 262)])) := by decide +kernel
set_option maxRecDepth 10000 in
theorem zs_262 : zSx[262]? = some (.inr (.inl (0, 100))) := by decide +kernel
set_option maxRecDepth 10000 in
theorem zs_263 : zSx[263]? = some (.inl (6, [some (some 264)])) := by decide +kernel
set_option maxRecDepth 10000 in
theorem zs_264 : zSx[264]? = some (.inr (.inl (0, 100))) := by decide +kernel
set_option maxRecDepth 10000 in
theorem zs_265 : zSx[265]? = some (.inl (6, [some (some 266)])) := by decide +kernel
set_option maxRecDepth 10000 in
theorem zs_266 : zSx[266]? = some (.inr (.inl (0, 100))) := by decide +kernel
set_option maxRecDepth 10000 in
theorem zs_267 : zSx[267]? = some (.inl (6, [some (some 268)])) := by decide +kernel
set_option maxRecDepth 10000 in
theorem zs_268 : zSx[268]? = some (.inr (.inl (0, 100))) := by decide +kernel
set_option maxRecDepth 10000 in
theorem zs_269 : zSx[269]? = some (.inl (6, [some (some 270)])) := by decide +kernel
set_option maxRecDepth 10000 in
theorem zs_270 : zSx[270]? = some (.inr (.inl (0, 100))) := by decide +kernel
set_option maxRecDepth 10000 in
theorem zs_271 : zSx[271]? = some (.inl (6, [some (some 272)])) := by decide +kernel
set_option maxRecDepth 10000 in
theorem zs_272 : zSx[272]? = some (.inr (.inl (0, 100))) := by decide +kernel
set_option maxRecDepth 10000 in
theorem zs_273 : zSx[273]? = some (.inl (6, [some (some 274)])) := by decide +kernel
set_option maxRecDepth 10000 in
theorem zs_274 : zSx[274]? = some (.inr (.inl (0, 100))) := by decide +kernel
set_option maxRecDepth 10000 in
theorem zs_275 : zSx[275]? = some (.inl (2, [some (some 276), none, some (some 278), none, some (some 289), some (some 291), none, none, none])) := by decide +kernel
set_option maxRecDepth 10000 in
theorem zs_276 : zSx[276]? = some (.inl (6, [some (some 277)])) := by decide +kernel
set_option maxRecDepth 10000 in
theorem zs_277 : zSx[277]? = some (.inr (.inl (0, 300))) := by decide +kernel
set_option maxRecDepth 10000 in
theorem zs_278 : zSx[278]? = some (.inl (8, [some (some 279), some (some 281), some (some 283), some (some 285), some (some 287), none])) := by decide +kernel
set_option maxRecDepth 10000 in
theorem zs_279 : zSx[279]? = some (.inl (6, [some (some 280)])) := by decide +kernel
set_option maxRecDepth 10000 in
theorem zs_280 : zSx[280]? = some (.inr (.inl (0, 100))) := by decide +kernel
set_option maxRecDepth 10000 in
theorem zs_281 : zSx[281]? = some (.inl (6, [some (some 282)])) := by decide +kernel
set_option maxRecDepth 10000 in
theorem zs_282 : zSx[282]? = some (.inr (.inl (0, 100))) := by decide +kernel
set_option maxRecDepth 10000 in
theorem zs_283 : zSx[283]? = some (.inl (6, [some (some 284)])) := by decide +kernel
set_option maxRecDepth 10000 in
theorem zs_284 : zSx[284]? = some (.inr (.inl (0, 100))) := by decide +kernel
set_option maxRecDepth 10000 in
theorem zs_285 : zSx[285]? = some (.inl (6, [some (some 286)])) := by decide +kernel
set_option maxRecDepth 10000 in
theorem zs_286 : zSx[286]? = some (.inr (.inl (0, 100))) := by decide +kernel
set_option maxRecDepth 10000 in
theorem zs_287 : zSx[287]? = some (.inl (6, [some (some 288)])) := by decide +kernel
set_option maxRecDepth 10000 in
theorem zs_288 : zSx[288]? = some (.inr (.inl (0, 100))) := by decide +kernel
set_option maxRecDepth 10000 in
theorem zs_289 : zSx[289]? = some (.inl (6, [some (some 290)])) := by decide +kernel
set_option maxRecDepth 10000 in
theorem zs_290 : zSx[290]? = some (.inr (.inl (0, 100))) := by decide +kernel
set_option maxRecDepth 10000 in
theorem zs_291 : zSx[291]? = some (.inl (6, [some (some 292)])) := by decide +kernel
set_option maxRecDepth 10000 in
theorem zs_292 : zSx[292]? = some (.inr (.inl (0, 100))) := by decide +kernel
set_option maxRecDepth 10000 in
theorem zs_293 : zSx[293]? = some (.inl (2, [some (some 294), none, some (some 296), none, some (some 307), some (some 309), none, none, none])) := by decide +kernel
set_option maxRecDepth 10000 in
theorem zs_294 : zSx[294]? = some (.inl (6, [some (some 295)])) := by decide +kernel
set_option maxRecDepth 10000 in
theorem zs_295 : zSx[295]? = some (.inr (.inl (0, 300))) := by decide +kernel
set_option maxRecDepth 10000 in
theorem zs_296 : zSx[296]? = some (.inl (8, [some (some 297), some (some 299), some (some 301), some (some 303), some (some 305), none])) := by decide +kernel
set_option maxRecDepth 10000 in
theorem zs_297 : zSx[297]? = some (.inl (6, [some (some 298)])) := by decide +kernel
set_option maxRecDepth 10000 in
theorem zs_298 : zSx[298]? = some (.inr (.inl (0, 100))) := by decide +kernel
set_option maxRecDepth 10000 in
theorem zs_299 : zSx[299]? = some (.inl (6, [some (some 300)])) := by decide +kernel
set_option maxRecDepth 10000 in
theorem zs_300 : zSx[300]? = some (.inr (.inl (0, 100))) := by decide +kernel
set_option maxRecDepth 10000 in
theorem zs_301 : zSx[301]? = some (.inl (6, [some (some 302)])) := by decide +kernel
set_option maxRecDepth 10000 in
theorem zs_302 : zSx[302]? = some (.inr (.inl (0, 100))) := by decide +kernel
set_option maxRecDepth 10000 in
theorem zs_303 : zSx[303]? = some (.inl (6, [some (some 304)])) := by decide +kernel
set_option maxRecDepth 10000 in
theorem zs_304 : zSx[304]? = some (.inr (.inl (0, 100))) := by decide +kernel
set_option maxRecDepth 10000 in
theorem zs_305 : zSx[305]? = some (.inl (6, [some (some 306)])) := by decide +kernel
set_option maxRecDepth 10000 in
theorem zs_306 : zSx[306]? = some (.inr (.inl (0, 100))) := by decide +kernel
set_option maxRecDepth 10000 in
theorem zs_307 : zSx[307]? = some (.inl (6, [some (some 308)])) := by decide +kernel
set_option maxRecDepth 10000 in
theorem zs_308 : zSx[308]? = some (.inr (.inl (0, 100))) := by decide +kernel
set_option maxRecDepth 10000 in
theorem zs_309 : zSx[309]? = some (.inl (6, [some (some 310)])) := by decide +kernel
set_option maxRecDepth 10000 in
theorem zs_310 : zSx[310]? = some (.inr (.inl (0, 100))) := by decide +kernel
set_option maxRecDepth 10000 in
theorem zs_311 : zSx[311]? = some (.inl (2, [some (some 312), none, some (some 314), none, some (some 325), some (some 327), none, none, none])) := by decide +kernel
set_option maxRecDepth 10000 in
theorem zs_312 : zSx[312]? = some (.inl (6, [some (some 313)])) := by decide +kernel
set_option maxRecDepth 10000 in
theorem zs_313 : zSx[313]? = some (.inr (.inl (0, 300))) := by decide +kernel
set_option maxRecDepth 10000 in
theorem zs_314 : zSx[314]? = some (.inl (8, [some (some 315), some (some 317), some (some 319), some (some 321), some (some 323), none])) := by decide +kernel
set_option maxRecDepth 10000 in
theorem zs_315 : zSx[315]? = some (.inl (6, [some (some 316)])) := by decide +kernel
set_option maxRecDepth 10000 in
theorem zs_316 : zSx[316]? = some (.inr (.inl (0, 100))) := by decide +kernel
set_option maxRecDepth 10000 in
theorem zs_317 : zSx[317]? = some (.inl (6, [some (some 318)])) := by decide +kernel
set_option maxRecDepth 10000 in
theorem zs_318 : zSx[318]? = some (.inr (.inl (0, 100))) := by decide +kernel
set_option maxRecDepth 10000 in
theorem zs_319 : zSx[319]? = some (.inl (6, [some (some 320)])) := by decide +kernel
set_option maxRecDepth 10000 in
theorem zs_320 : zSx[320]? = some (.inr (.inl (0, 100))) := by decide +kernel
set_option maxRecDepth 10000 in
theorem zs_321 : zSx[321]? = some (.inl (6, [some (some 322)])) := by decide +kernel
set_option maxRecDepth 10000 in
theorem zs_322 : zSx[322]? = some (.inr (.inl (0, 100))) := by decide +kernel
set_option maxRecDepth 10000 in
theorem zs_323 : zSx[323]? = some (.inl (6, [some (some 324)])) := by decide +kernel
set_option maxRecDepth 10000 in
theorem zs_324 : zSx[324]? = some (.inr (.inl (0, 100))) := by decide +kernel
set_option maxRecDepth 10000 in
theorem zs_325 : zSx[325]? = some (.inl (6, [some (some 326)])) := by decide +kernel
set_option maxRecDepth 10000 in
theorem zs_326 : zSx[326]? = some (.inr (.inl (0, 100))) := by decide +kernel
set_option maxRecDepth 10000 in
theorem zs_327 : zSx[327]? = some (.inl (6, [some (some 328)])) := by decide +kernel
set_option maxRecDepth 10000 in
theorem zs_328 : zSx[328]? = some (.inr (.inl (0, 100))) := by decide +kernel
set_option maxRecDepth 10000 in
theorem zs_329 : zSx[329]? = some (.inl (2, [some (some 330), none, some (some 332), none, some (some 343), some (some 345), none, none, none])) := by decide +kernel
set_option maxRecDepth 10000 in
theorem zs_330 : zSx[330]? = some (.inl (6, [some (some 331)])) := by decide +kernel
set_option maxRecDepth 10000 in
theorem zs_331 : zSx[331]? = some (.inr (.inl (0, 300))) := by decide +kernel
set_option maxRecDepth 10000 in
theorem zs_332 : zSx[332]? = some (.inl (8, [some (some 333), some (some 335), some (some 337), some (some 339), some (some 341), none])) := by decide +kernel
set_option maxRecDepth 10000 in
theorem zs_333 : zSx[333]? = some (.inl (6, [some (some 334)])) := by decide +kernel
set_option maxRecDepth 10000 in
theorem zs_334 : zSx[334]? = some (.inr (.inl (0, 100))) := by decide +kernel
set_option maxRecDepth 10000 in
theorem zs_335 : zSx[335]? = some (.inl (6, [some (some 336)])) := by decide +kernel
set_option maxRecDepth 10000 in
theorem zs_336 : zSx[336]? = some (.inr (.inl (0, 100))) := by decide +kernel
set_option maxRecDepth 10000 in
theorem zs_337 : zSx[337]? = some (.inl (6, [some (some 338)])) := by decide +kernel
set_option maxRecDepth 10000 in
theorem zs_338 : zSx[338]? = some (.inr (.inl (0, 100))) := by decide +kernel
set_option maxRecDepth 10000 in
theorem zs_339 : zSx[339]? = some (.inl (6, [some (some 340)])) := by decide +kernel
set_option maxRecDepth 10000 in
theorem zs_340 : zSx[340]? = some (.inr (.inl (0, 100))) := by decide +kernel
set_option maxRecDepth 10000 in
theorem zs_341 : zSx[341]? = some (.inl (6, [some (some 342)])) := by decide +kernel
set_option maxRecDepth 10000 in
theorem zs_342 : zSx[342]? = some (.inr (.inl (0, 100))) := by decide +kernel
set_option maxRecDepth 10000 in
theorem zs_343 : zSx[343]? = some (.inl (6, [some (some 344)])) := by decide +kernel
set_option maxRecDepth 10000 in
theorem zs_344 : zSx[344]? = some (.inr (.inl (0, 100))) := by decide +kernel
set_option maxRecDepth 10000 in
theorem zs_345 : zSx[345]? = some (.inl (6, [some (some 346)])) := by decide +kernel
set_option maxRecDepth 10000 in
theorem zs_346 : zSx[346]? = some (.inr (.inl (0, 100))) := by decide +kernel
set_option maxRecDepth 10000 in
theorem zs_347 : zSx[347]? = some (.inl (2, [some (some 348), none, some (some 350), none, some (some 361), some (some 363), none, none, none])) := by decide +kernel
set_option maxRecDepth 10000 in
theorem zs_348 : zSx[348]? = some (.inl (6, [some (some 349)])) := by decide +kernel
set_option maxRecDepth 10000 in
theorem zs_349 : zSx[349]? = some (.inr (.inl (0, 300))) := by decide +kernel
set_option maxRecDepth 10000 in
theorem zs_350 : zSx[350]? = some (.inl (8, [some (some 351), some (some 353), some (some 355), some (some 357), some (some 359), none])) := by decide +kernel
set_option maxRecDepth 10000 in
theorem zs_351 : zSx[351]? = some (.inl (6, [some (some 352)])) := by decide +kernel
set_option maxRecDepth 10000 in
theorem zs_352 : zSx[352]? = some (.inr (.inl (0, 100))) := by decide +kernel
set_option maxRecDepth 10000 in
theorem zs_353 : zSx[353]? = some (.inl (6, [some (some 354)])) := by decide +kernel
set_option maxRecDepth 10000 in
theorem zs_354 : zSx[354]? = some (.inr (.inl (0, 100))) := by decide +kernel
set_option maxRecDepth 10000 in
theorem zs_355 : zSx[355]? = some (.inl (6, [some (some 356)])) := by decide +kernel
set_option maxRecDepth 10000 in
theorem zs_356 : zSx[356]? = some (.inr (.inl (0, 100))) := by decide +kernel
set_option maxRecDepth 10000 in
theorem zs_357 : zSx[357]? = some (.inl (6, [some (some 358)])) := by decide +kernel
set_option maxRecDepth 10000 in
theorem zs_358 : zSx[358]? = some (.inr (.inl (0, 100))) := by decide +kernel
set_option maxRecDepth 10000 in
theorem zs_359 : zSx[359]? = some (.inl (6, [some (some 360)])) := by decide +kernel
set_option maxRecDepth 10000 in
theorem zs_360 : zSx[360]? = some (.inr (.inl (0, 100))) := by decide +kernel
set_option maxRecDepth 10000 in
theorem zs_361 : zSx[361]? = some (.inl (6, [some (some 362)])) := by decide +kernel
set_option maxRecDepth 10000 in
theorem zs_362 : zSx[362]? = some (.inr (.inl (0, 100))) := by decide +kernel
set_option maxRecDepth 10000 in
theorem zs_363 : zSx[363]? = some (.inl (6, [some (some 364)])) := by decide +kernel
set_option maxRecDepth 10000 in
theorem zs_364 : zSx[364]? = some (.inr (.inl (0, 100))) := by decide +kernel
set_option maxRecDepth 10000 in
theorem zs_365 : zSx[365]? = some (.inl (2, [some (some 366), none, some (some 368), none, some (some 379), some (some 381), none, none, none])) := by decide +kernel
set_option maxRecDepth 10000 in
theorem zs_366 : zSx[366]? = some (.inl (6, [some (some 367)])) := by decide +kernel
set_option maxRecDepth 10000 in
theorem zs_367 : zSx[367]? = some (.inr (.inl (0, 300))) := by decide +kernel
set_option maxRecDepth 10000 in
theorem zs_368 : zSx[368]? = some (.inl (8, [some (some 369), some (some 371), some (some 373), some (some 375), some (some 377), none])) := by decide +kernel
set_option maxRecDepth 10000 in
theorem zs_369 : zSx[369]? = some (.inl (6, [some (some 370)])) := by decide +kernel
set_option maxRecDepth 10000 in
theorem zs_370 : zSx[370]? = some (.inr (.inl (0, 100))) := by decide +kernel
set_option maxRecDepth 10000 in
theorem zs_371 : zSx[371]? = some (.inl (6, [some (some 372)])) := by decide +kernel
set_option maxRecDepth 10000 in
theorem zs_372 : zSx[372]? = some (.inr (.inl (0, 100))) := by decide +kernel
set_option maxRecDepth 10000 in
theorem zs_373 : zSx[373]? = some (.inl (6, [some (some 374)])) := by decide +kernel
set_option maxRecDepth 10000 in
theorem zs_374 : zSx[374]? = some (.inr (.inl (0, 100))) := by decide +kernel
set_option maxRecDepth 10000 in
theorem zs_375 : zSx[375]? = some (.inl (6, [some (some 376)])) := by decide +kernel
set_option maxRecDepth 10000 in
theorem zs_376 : zSx[376]? = some (.inr (.inl (0, 100))) := by decide +kernel
set_option maxRecDepth 10000 in
theorem zs_377 : zSx[377]? = some (.inl (6, [some (some 378)])) := by decide +kernel
set_option maxRecDepth 10000 in
theorem zs_378 : zSx[378]? = some (.inr (.inl (0, 100))) := by decide +kernel
set_option maxRecDepth 10000 in
theorem zs_379 : zSx[379]? = some (.inl (6, [some (some 380)])) := by decide +kernel
set_option maxRecDepth 10000 in
theorem zs_380 : zSx[380]? = some (.inr (.inl (0, 100))) := by decide +kernel
set_option maxRecDepth 10000 in
theorem zs_381 : zSx[381]? = some (.inl (6, [some (some 382)])) := by decide +kernel
set_option maxRecDepth 10000 in
theorem zs_382 : zSx[382]? = some (.inr (.inl (0, 100))) := by decide +kernel
set_option maxRecDepth 10000 in
theorem zs_383 : zSx[383]? = some (.inl (2, [some (some 384), none, some (some 386), none, some (some 397), some (some 399), none, none, none])) := by decide +kernel
set_option maxRecDepth 10000 in
theorem zs_384 : zSx[384]? = some (.inl (6, [some (some 385)])) := by decide +kernel
set_option maxRecDepth 10000 in
theorem zs_385 : zSx[385]? = some (.inr (.inl (0, 300))) := by decide +kernel
set_option maxRecDepth 10000 in
theorem zs_386 : zSx[386]? = some (.inl (8, [some (some 387), some (some 389), some (some 391), some (some 393), some (some 395), none])) := by decide +kernel
set_option maxRecDepth 10000 in
theorem zs_387 : zSx[387]? = some (.inl (6, [some (some 388)])) := by decide +kernel
set_option maxRecDepth 10000 in
theorem zs_388 : zSx[388]? = some (.inr (.inl (0, 100))) := by decide +kernel
set_option maxRecDepth 10000 in
theorem zs_389 : zSx[389]? = some (.inl (6, [some (some 390)])) := by decide +kernel
set_option maxRecDepth 10000 in
theorem zs_390 : zSx[390]? = some (.inr (.inl (0, 100))) := by decide +kernel
set_option maxRecDepth 10000 in
theorem zs_391 : zSx[391]? = some (.inl (6, [some (some 392)])) := by decide +kernel
set_option maxRecDepth 10000 in
theorem zs_392 : zSx[392]? = some (.inr (.inl (0, 100))) := by decide +kernel
set_option maxRecDepth 10000 in
theorem zs_393 : zSx[393]? = some (.inl (6, [some (some 394)])) := by decide +kernel
set_option maxRecDepth 10000 in
theorem zs_394 : zSx[394]? = some (.inr (.inl (0, 100))) := by decide +kernel
set_option maxRecDepth 10000 in
theorem zs_395 : zSx[395]? = some (.inl (6, [some (some 396)])) := by decide +kernel
set_option maxRecDepth 10000 in
theorem zs_396 : zSx[396]? = some (.inr (.inl (0, 100))) := by decide +kernel
set_option maxRecDepth 10000 in
theorem zs_397 : zSx[397]? = some (.inl (6, [some (some 398)])) := by decide +kernel
set_option maxRecDepth 10000 in
theorem zs_398 : zSx[398]? = some (.inr (.inl (0, 100))) := by decide +kernel
set_option maxRecDepth 10000 in
theorem zs_399 : zSx[399]? = some (.inl (6, [some (some 400)])) := by decide +kernel
set_option maxRecDepth 10000 in
theorem zs_400 : zSx[400]? = some (.inr (.inl (0, 100))) := by decide +kernel
set_option maxRecDepth 10000 in
theorem zs_401 : zSx[401]? = some (.inl (2, [some (some 402), none, some (some 404), none, some (some 415), some (some 417), none, none, none])) := by decide +kernel
set_option maxRecDepth 10000 in
theorem zs_402 : zSx[402]? = some (.inl (6, [some (some 403)])) := by decide +kernel
set_option maxRecDepth 10000 in
theorem zs_403 : zSx[403]? = some (.inr (.inl (0, 300))) := by decide +kernel
set_option maxRecDepth 10000 in
theorem zs_404 : zSx[404]? = some (.inl (8, [some (some 405), some (some 407), some (some 409), some (some 411), some (some 413), none])) := by decide +kernel
set_option maxRecDepth 10000 in
theorem zs_405 : zSx[405]? = some (.inl (6, [some (some 406)])) := by decide +kernel
set_option maxRecDepth 10000 in
theorem zs_406 : zSx[406]? = some (.inr (.inl (0, 100))) := by decide +kernel
set_option maxRecDepth 10000 in
theorem zs_407 : zSx[407]? = some (.inl (6, [some (some 408)])) := by decide +kernel
set_option maxRecDepth 10000 in
theorem zs_408 : zSx[408]? = some (.inr (.inl (0, 100))) := by decide +kernel
set_option maxRecDepth 10000 in
theorem zs_409 : zSx[409]? = some (.inl (6, [some (some 410)])) := by decide +kernel
set_option maxRecDepth 10000 in
theorem zs_410 : zSx[410]? = some (.inr (.inl (0, 100))) := by decide +kernel
set_option maxRecDepth 10000 in
theorem zs_411 : zSx[411]? = some (.inl (6, [some (some 412)])) := by decide +kernel
set_option maxRecDepth 10000 in
theorem zs_412 : zSx[412]? = some (.inr (.inl (0, 100))) := by decide +kernel
set_option maxRecDepth 10000 in
theorem zs_413 : zSx[413]? = some (.inl (6, [some (some 414)])) := by decide +kernel
set_option maxRecDepth 10000 in
theorem zs_414 : zSx[414]? = some (.inr (.inl (0, 100))) := by decide +kernel
set_option maxRecDepth 10000 in
theorem zs_415 : zSx[415]? = some (.inl (6, [some (some 416)])) := by decide +kernel
set_option maxRecDepth 10000 in
theorem zs_416 : zSx[416]? = some (.inr (.inl (0, 100))) := by decide +kernel
set_option maxRecDepth 10000 in
theorem zs_417 : zSx[417]? = some (.inl (6, [some (some 418)])) := by decide +kernel
set_option maxRecDepth 10000 in
theorem zs_418 : zSx[418]? = some (.inr (.inl (0, 100))) := by decide +kernel
set_option maxRecDepth 10000 in
theorem zs_419 : zSx[419]? = some (.inl (2, [some (some 420), none, some (some 422), none, some (some 433), some (some 435), none, none, none])) := by decide +kernel
set_option maxRecDepth 10000 in
theorem zs_420 : zSx[420]? = some (.inl (6, [some (some 421)])) := by decide +kernel
set_option maxRecDepth 10000 in
theorem zs_421 : zSx[421]? = some (.inr (.inl (0, 300))) := by decide +kernel
set_option maxRecDepth 10000 in
theorem zs_422 : zSx[422]? = some (.inl (8, [some (some 423), some (some 425), some (some 427), some (some 429), some (some 431), none])) := by decide +kernel
set_option maxRecDepth 10000 in
theorem zs_423 : zSx[423]? = some (.inl (6, [some (some 424)])) := by decide +kernel
set_option maxRecDepth 10000 in
theorem zs_424 : zSx[424]? = some (.inr (.inl (0, 100))) := by decide +kernel
set_option maxRecDepth 10000 in
theorem zs_425 : zSx[425]? = some (.inl (6, [some (some 426)])) := by decide +kernel
set_option maxRecDepth 10000 in
theorem zs_426 : zSx[426]? = some (.inr (.inl (0, 100))) := by decide +kernel
set_option maxRecDepth 10000 in
theorem zs_427 : zSx[427]? = some (.inl (6, [some (some 428)])) := by decide +kernel
set_option maxRecDepth 10000 in
theorem zs_428 : zSx[428]? = some (.inr (.inl (0, 100))) := by decide +kernel
set_option maxRecDepth 10000 in
theorem zs_429 : zSx[429]? = some (.inl (6, [some (some 430)])) := by decide +kernel
set_option maxRecDepth 10000 in
theorem zs_430 : zSx[430]? = some (.inr (.inl (0, 100))) := by decide +kernel
set_option maxRecDepth 10000 in
theorem zs_431 : zSx[431]? = some (.inl (6, [some (some 432)])) := by decide +kernel
set_option maxRecDepth 10000 in
theorem zs_432 : zSx[432]? = some (.inr (.inl (0, 100))) := by decide +kernel
set_option maxRecDepth 10000 in
theorem zs_433 : zSx[433]? = some (.inl (6, [some (some 434)])) := by decide +kernel
set_option maxRecDepth 10000 in
theorem zs_434 : zSx[434]? = some (.inr (.inl (0, 100))) := by decide +kernel
set_option maxRecDepth 10000 in
theorem zs_435 : zSx[435]? = some (.inl (6, [some (some 436)])) := by decide +kernel
set_option maxRecDepth 10000 in
theorem zs_436 : zSx[436]? = some (.inr (.inl (0, 100))) := by decide +kernel
set_option maxRecDepth 10000 in
theorem zs_437 : zSx[437]? = some (.inl (2, [some (some 438), none, some (some 440), none, some (some 451), some (some 453), none, none, none])) := by decide +kernel
set_option maxRecDepth 10000 in
theorem zs_438 : zSx[438]? = some (.inl (6, [some (some 439)])) := by decide +kernel
set_option maxRecDepth 10000 in
theorem zs_439 : zSx[439]? = some (.inr (.inl (0, 300))) := by decide +kernel
set_option maxRecDepth 10000 in
theorem zs_440 : zSx[440]? = some (.inl (8, [some (some 441), some (some 443), some (some 445), some (some 447), some (some 449), none])) := by decide +kernel
set_option maxRecDepth 10000 in
theorem zs_441 : zSx[441]? = some (.inl (6, [some (some 442)])) := by decide +kernel
set_option maxRecDepth 10000 in
theorem zs_442 : zSx[442]? = some (.inr (.inl (0, 100))) := by decide +kernel
set_option maxRecDepth 10000 in
theorem zs_443 : zSx[443]? = some (.inl (6, [some (some 444)])) := by decide +kernel
set_option maxRecDepth 10000 in
theorem zs_444 : zSx[444]? = some (.inr (.inl (0, 100))) := by decide +kernel
set_option maxRecDepth 10000 in
theorem zs_445 : zSx[445]? = some (.inl (6, [some (some 446)])) := by decide +kernel
set_option maxRecDepth 10000 in
theorem zs_446 : zSx[446]? = some (.inr (.inl (0, 100))) := by decide +kernel
set_option maxRecDepth 10000 in
theorem zs_447 : zSx[447]? = some (.inl (6, [some (some 448)])) := by decide +kernel
set_option maxRecDepth 10000 in
theorem zs_448 : zSx[448]? = some (.inr (.inl (0, 100))) := by decide +kernel
set_option maxRecDepth 10000 in
theorem zs_449 : zSx[449]? = some (.inl (6, [some (some 450)])) := by decide +kernel
set_option maxRecDepth 10000 in
theorem zs_450 : zSx[450]? = some (.inr (.inl (0, 100))) := by decide +kernel
set_option maxRecDepth 10000 in
theorem zs_451 : zSx[451]? = some (.inl (6, [some (some 452)])) := by decide +kernel
set_option maxRecDepth 10000 in
theorem zs_452 : zSx[452]? = some (.inr (.inl (0, 100))) := by decide +kernel
set_option maxRecDepth 10000 in
theorem zs_453 : zSx[453]? = some (.inl (6, [some (some 454)])) := by decide +kernel
set_option maxRecDepth 10000 in
theorem zs_454 : zSx[454]? = some (.inr (.inl (0, 100))) := by decide +kernel
set_option maxRecDepth 10000 in
theorem zs_455 : zSx[455]? = some (.inl (2, [some (some 456), none, some (some 458), none, some (some 469), some (some 471), none, none, none])) := by decide +kernel
set_option maxRecDepth 10000 in
theorem zs_456 : zSx[456]? = some (.inl (6, [some (some 457)])) := by decide +kernel
set_option maxRecDepth 10000 in
theorem zs_457 : zSx[457]? = some (.inr (.inl (0, 300))) := by decide +kernel
set_option maxRecDepth 10000 in
theorem zs_458 : zSx[458]? = some (.inl (8, [some (some 459), some (some 461), some (some 463), some (some 465), some (some 467), none])) := by decide +kernel
set_option maxRecDepth 10000 in
theorem zs_459 : zSx[459]? = some (.inl (6, [some (some 460)])) := by decide +kernel
set_option maxRecDepth 10000 in
theorem zs_460 : zSx[460]? = some (.inr (.inl (0, 100))) := by decide +kernel
set_option maxRecDepth 10000 in
theorem zs_461 : zSx[461]? = some (.inl (6, [some (some 462)])) := by decide +kernel
set_option maxRecDepth 10000 in
theorem zs_462 : zSx[462]? = some (.inr (.inl (0, 100))) := by decide +kernel
set_option maxRecDepth 10000 in
theorem zs_463 : zSx[463]? = some (.inl (6, [some (some 464)])) := by decide +kernel
set_option maxRecDepth 10000 in
theorem zs_464 : zSx[464]? = some (.inr (.inl (0, 100))) := by decide +kernel
set_option maxRecDepth 10000 in
theorem zs_465 : zSx[465]? = some (.inl (6, [some (some 466)])) := by decide +kernel
set_option maxRecDepth 10000 in
theorem zs_466 : zSx[466]? = some (.inr (.inl (0, 100))) := by decide +kernel
set_option maxRecDepth 10000 in
theorem zs_467 : zSx[467]? = some (.inl (6, [some (some 468)])) := by decide +kernel
set_option maxRecDepth 10000 in
theorem zs_468 : zSx[468]? = some (.inr (.inl (0, 100))) := by decide +kernel
set_option maxRecDepth 10000 in
theorem zs_469 : zSx[469]? = some (.inl (6, [some (some 470)])) := by decide +kernel
set_option maxRecDepth 10000 in
theorem zs_470 : zSx[470]? = some (.inr (.inl (0, 100))) := by decide +kernel
set_option maxRecDepth 10000 in
theorem zs_471 : zSx[471]? = some (.inl (6, [some (some 472)])) := by decide +kernel
set_option maxRecDepth 10000 in
theorem zs_472 : zSx[472]? = some (.inr (.inl (0, 100))) := by decide +kernel
set_option maxRecDepth 10000 in
theorem zs_473 : zSx[473]? = some (.inl (2, [some (some 474), none, some (some 476), none, some (some 487), some (some 489), none, none, none])) := by decide +kernel
set_option maxRecDepth 10000 in
theorem zs_474 : zSx[474]? = some (.inl (6, [some (some 475)])) := by decide +kernel
set_option maxRecDepth 10000 in
theorem zs_475 : zSx[475]? = some (.inr (.inl (0, 300))) := by decide +kernel
set_option maxRecDepth 10000 in
theorem zs_476 : zSx[476]? = some (.inl (8, [some (some 477), some (some 479), some (some 481), some (some 483), some (some 485), none])) := by decide +kernel
set_option maxRecDepth 10000 in
theorem zs_477 : zSx[477]? = some (.inl (6, [some (some 478)])) := by decide +kernel
set_option maxRecDepth 10000 in
theorem zs_478 : zSx[478]? = some (.inr (.inl (0, 100))) := by decide +kernel
set_option maxRecDepth 10000 in
theorem zs_479 : zSx[479]? = some (.inl (6, [some (some 480)])) := by decide +kernel
set_option maxRecDepth 10000 in
theorem zs_480 : zSx[480]? = some (.inr (.inl (0, 100))) := by decide +kernel
set_option maxRecDepth 10000 in
theorem zs_481 : zSx[481]? = some (.inl (6, [some (some 482)])) := by decide +kernel
set_option maxRecDepth 10000 in
theorem zs_482 : zSx[482]? = some (.inr (.inl (0, 100))) := by decide +kernel
set_option maxRecDepth 10000 in
theorem zs_483 : zSx[483]? = some (.inl (6, [some (some 484)])) := by decide +kernel
set_option maxRecDepth 10000 in
theorem zs_484 : zSx[484]? = some (.inr (.inl (0, 100))) := by decide +kernel
set_option maxRecDepth 10000 in
theorem zs_485 : zSx[485]? = some (.inl (6, [some (some 486)])) := by decide +kernel
set_option maxRecDepth 10000 in
theorem zs_486 : zSx[486]? = some (.inr (.inl (0, 100))) := by decide +kernel
set_option maxRecDepth 10000 in
theorem zs_487 : zSx[487]? = some (.inl (6, [some (some 488)])) := by decide +kernel
set_option maxRecDepth 10000 in
theorem zs_488 : zSx[488]? = some (.inr (.inl (0, 100))) := by decide +kernel
set_option maxRecDepth 10000 in
theorem zs_489 : zSx[489]? = some (.inl (6, [some (some 490)])) := by decide +kernel
set_option maxRecDepth 10000 in
theorem zs_490 : zSx[490]? = some (.inr (.inl (0, 100))) := by decide +kernel
theorem zmx_0 : ∀ (i : Nat), i < 21 → zSx[zmom i + 0]? = some (.inl (2, [some (some (zmom i + 1)), none, some (some (zmom i + 3)), none, some (some (zmom i + 14)), some (some (zmom i + 16)), none, none, none]))
  | 0, _ => zs_113
  | 1, _ => zs_131
  | 2, _ => zs_149
  | 3, _ => zs_167
  | 4, _ => zs_185
  | 5, _ => zs_203
  | 6, _ => zs_221
  | 7, _ => zs_239
  | 8, _ => zs_257
  | 9, _ => zs_275
  | 10, _ => zs_293
  | 11, _ => zs_311
  | 12, _ => zs_329
  | 13, _ => zs_347
  | 14, _ => zs_365
  | 15, _ => zs_383
  | 16, _ => zs_401
  | 17, _ => zs_419
  | 18, _ => zs_437
  | 19, _ => zs_455
  | 20, _ => zs_473
  | n + 21, h => absurd h (by omega)
theorem zmx_1 : ∀ (i : Nat), i < 21 → zSx[zmom i + 1]? = some (.inl (6, [some (some (zmom i + 2))]))
  | 0, _ => zs_114
  | 1, _ => zs_132
  | 2, _ => zs_150
  | 3, _ => zs_168
  | 4, _ => zs_186
  | 5, _ => zs_204
  | 6, _ => zs_222
  | 7, _ => zs_240
  | 8, _ => zs_258
  | 9, _ => zs_276
  | 10, _ => zs_294
  | 11, _ => zs_312
  | 12, _ => zs_330
  | 13, _ => zs_348
  | 14, _ => zs_366
  | 15, _ => zs_384
  | 16, _ => zs_402
  | 17, _ => zs_420
  | 18, _ => zs_438
  | 19, _ => zs_456
  | 20, _ => zs_474
  | n + 21, h => absurd h (by omega)
theorem zmx_2 : ∀ (i : Nat), i < 21 → zSx[zmom i + 2]? = some (.inr (.inl (0, 300)))
  | 0, _ => zs_115
  | 1, _ => zs_133
  | 2, _ => zs_151
  | 3, _ => zs_169
  | 4, _ => zs_187
  | 5, _ => zs_205
  | 6, _ => zs_223
  | 7, _ => zs_241
  | 8, _ => zs_259
  | 9, _ => zs_277
  | 10, _ => zs_295
  | 11, _ => zs_313
  | 12, _ => zs_331
  | 13, _ => zs_349
  | 14, _ => zs_367
  | 15, _ => zs_385
  | 16, _ => zs_403
  | 17, _ => zs_421
  | 18, _ => zs_439
  | 19, _ => zs_457
  | 20, _ => zs_475
  | n + 21, h => absurd h (by omega)
theorem zmx_3 : ∀ (i : Nat), i < 21 → zSx[zmom i + 3]? = some (.inl (8, [some (some (zmom i + 4)), some (some (zmom i + 6)), some (some (zmom i + 8)), some (some (zmom i + 10)), some (some (zmom i + 12)), none]))
  | 0, _ => zs_116
  | 1, _ => zs_134
  | 2, _ => zs_152
  | 3, _ => zs_170
  | 4, _ => zs_188
  | 5, _ => zs_206
  | 6, _ => zs_224
  | 7, _ => zs_242
  | 8, _ => zs_260
  | 9, _ => zs_278
  | 10, _ => zs_296
  | 11, _ => zs_314
  | 12, _ => zs_332
  | 13, _ => zs_350
  | 14, _ => zs_368
  | 15, _ => zs_386
  | 16, _ => zs_404
  | 17, _ => zs_422
  | 18, _ => zs_440
  | 19, _ => zs_458
  | 20, _ => zs_476
  | n + 21, h => absurd h (by omega)
theorem zmx_4 : ∀ (i : Nat), i < 21 → zSx[zmom i + 4]? = some (.inl (6, [some (some (zmom i + 5))]))
  | 0, _ => zs_117
  | 1, _ => zs_135
  | 2, _ => zs_153
  | 3, _ => zs_171
  | 4, _ => zs_189
  | 5, _ => zs_207
  | 6, _ => zs_225
  | 7, _ => zs_243
  | 8, _ => zs_261
  | 9, _ => zs_279
  | 10, _ => zs_297
  | 11, _ => zs_315
  | 12, _ => zs_333
  | 13, _ => zs_351
  | 14, _ => zs_369
  | 15, _ => zs_387
  | 16, _ => zs_405
  | 17, _ => zs_423
  | 18, _ => zs_441
  | 19, _ => zs_459
  | 20, _ => zs_477
  | n + 21, h => absurd h (by omega)
theorem zmx_5 : ∀ (i : Nat), i < 21 → zSx[zmom i + 5]? = some (.inr (.inl (0, 100)))
  | 0, _ => zs_118
  | 1, _ => zs_136
  | 2, _ => zs_154
  | 3, _ => zs_172
  | 4, _ => zs_190
  | 5, _ => zs_208
  | 6, _ => zs_226
  | 7, _ => zs_244
  | 8, _ => zs_262
  | 9, _ => zs_280
  | 10, _ => zs_298
  | 11, _ => zs_316
  | 12, _ => zs_334
  | 13, _ => zs_352
  | 14, _ => zs_370
  | 15, _ => zs_388
  | 16, _ => zs_406
  | 17, _ => zs_424
  | 18, _ => zs_442
  | 19, _ => zs_460
  | 20, _ => zs_478
  | n + 21, h => absurd h (by omega)
theorem zmx_6 : ∀ (i : Nat), i < 21 → zSx[zmom i + 6]? = some (.inl (6, [some (some (zmom i + 7))]))
  | 0, _ => zs_119
  | 1, _ => zs_137
  | 2, _ => zs_155
  | 3, _ => zs_173
  | 4, _ => zs_191
  | 5, _ => zs_209
  | 6, _ => zs_227
  | 7, _ => zs_245
  | 8, _ => zs_263
  | 9, _ => zs_281
  | 10, _ => zs_299
  | 11, _ => zs_317
  | 12, _ => zs_335
  | 13, _ => zs_353
  | 14, _ => zs_371
  | 15, _ => zs_389
  | 16, _ => zs_407
  | 17, _ => zs_425
  | 18, _ => zs_443
  | 19, _ => zs_461
  | 20, _ => zs_479
  | n + 21, h => absurd h (by omega)
theorem zmx_7 : ∀ (i : Nat), i < 21 → zSx[zmom i + 7]? = some (.inr (.inl (0, 100)))
  | 0, _ => zs_120
  | 1, _ => zs_138
  | 2, _ => zs_156
  | 3, _ => zs_174
  | 4, _ => zs_192
  | 5, _ => zs_210
  | 6, _ => zs_228
  | 7, _ => zs_246
  | 8, _ => zs_264
  | 9, _ => zs_282
  | 10, _ => zs_300
  | 11, _ => zs_318
  | 12, _ => zs_336
  | 13, _ => zs_354
  | 14, _ => zs_372
  | 15, _ => zs_390
  | 16, _ => zs_408
  | 17, _ => zs_426
  | 18, _ => zs_444
  | 19, _ => zs_462
  | 20, _ => zs_480
  | n + 21, h => absurd h (by omega)
theorem zmx_8 : ∀ (i : Nat), i < 21 → zSx[zmom i + 8]? = some (.inl (6, [some (some (zmom i + 9))]))
  | 0, _ => zs_121
  | 1, _ => zs_139
  | 2, _ => zs_157
  | 3, _ => zs_175
  | 4, _ => zs_193
  | 5, _ => zs_211
  | 6, _ => zs_229
  | 7, _ => zs_247
  | 8, _ => zs_265
  | 9, _ => zs_283
  | 10, _ => zs_301
  | 11, _ => zs_319
  | 12, _ => zs_337
  | 13, _ => zs_355
  | 14, _ => zs_373
  | 15, _ => zs_391
  | 16, _ => zs_409
  | 17, _ => zs_427
  | 18, _ => zs_445
  | 19, _ => zs_463
  | 20, _ => zs_481
  | n + 21, h => absurd h (by omega)
theorem zmx_9 : ∀ (i : Nat), i < 21 → zSx[zmom i + 9]? = some (.inr (.inl (0, 100)))
  | 0, _ => zs_122
  | 1, _ => zs_140
  | 2, _ => zs_158
  | 3, _ => zs_176
  | 4, _ => zs_194
  | 5, _ => zs_212
  | 6, _ => zs_230
  | 7, _ => zs_248
  | 8, _ => zs_266
  | 9, _ => zs_284
  | 10, _ => zs_302
  | 11, _ => zs_320
  | 12, _ => zs_338
  | 13, _ => zs_356
  | 14, _ => zs_374
  | 15, _ => zs_392
  | 16, _ => zs_410
  | 17, _ => zs_428
  | 18, _ => zs_446
  | 19, _ => zs_464
  | 20, _ => zs_482
  | n + 21, h => absurd h (by omega)
theorem zmx_10 : ∀ (i : Nat), i < 21 → zSx[zmom i + 10]? = some (.inl (6, [some (some (zmom i + 11))]))
  | 0, _ => zs_123
  | 1, _ => zs_141
  | 2, _ => zs_159
  | 3, _ => zs_177
  | 4, _ => zs_195
  | 5, _ => zs_213
  | 6, _ => zs_231
  | 7, _ => zs_249
  | 8, _ => zs_267
  | 9, _ => zs_285
  | 10, _ => zs_303
  | 11, _ => zs_321
  | 12, _ => zs_339
  | 13, _ => zs_357
  | 14, _ => zs_375
  | 15, _ => zs_393
  | 16, _ => zs_411
  | 17, _ => zs_429
  | 18, _ => zs_447
  | 19, _ => zs_465
  | 20, _ => zs_483
  | n + 21, h => absurd h (by omega)
theorem zmx_11 : ∀ (i : Nat), i < 21 → zSx[zmom i + 11]? = some (.inr (.inl (0, 100)))
  | 0, _ => zs_124
  | 1, _ => zs_142
  | 2, _ => zs_160
  | 3, _ => zs_178
  | 4, _ => zs_196
  | 5, _ => zs_214
  | 6, _ => zs_232
  | 7, _ => zs_250
  | 8, _ => zs_268
  | 9, _ => zs_286
  | 10, _ => zs_304
  | 11, _ => zs_322
  | 12, _ => zs_340
  | 13, _ => zs_358
  | 14, _ => zs_376
  | 15, _ => zs_394
  | 16, _ => zs_412
  | 17, _ => zs_430
  | 18, _ => zs_448
  | 19, _ => zs_466
  | 20, _ => zs_484
  | n + 21, h => absurd h (by omega)
theorem zmx_12 : ∀ (i : Nat), i < 21 → zSx[zmom i + 12]? = some (.inl (6, [some (some (zmom i + 13))]))
  | 0, _ => zs_125
  | 1, _ => zs_143
  | 2, _ => zs_161
  | 3, _ => zs_179
  | 4, _ => zs_197
  | 5, _ => zs_215
  | 6, _ => zs_233
  | 7, _ => zs_251
  | 8, _ => zs_269
  | 9, _ => zs_287
  | 10, _ => zs_305
  | 11, _ => zs_323
  | 12, _ => zs_341
  | 13, _ => zs_359
  | 14, _ => zs_377
  | 15, _ => zs_395
  | 16, _ => zs_413
  | 17, _ => zs_431
  | 18, _ => zs_449
  | 19, _ => zs_467
  | 20, _ => zs_485
  | n + 21, h => absurd h (by omega)
theorem zmx_13 : ∀ (i : Nat), i < 21 → zSx[zmom i + 13]? = some (.inr (.inl (0, 100)))
  | 0, _ => zs_126
  | 1, _ => zs_144
  | 2, _ => zs_162
  | 3, _ => zs_180
  | 4, _ => zs_198
  | 5, _ => zs_216
  | 6, _ => zs_234
  | 7, _ => zs_252
  | 8, _ => zs_270
  | 9, _ => zs_288
  | 10, _ => zs_306
  | 11, _ => zs_324
  | 12, _ => zs_342
  | 13, _ => zs_360
  | 14, _ => zs_378
  | 15, _ => zs_396
  | 16, _ => zs_414
  | 17, _ => zs_432
  | 18, _ => zs_450
  | 19, _ => zs_468
  | 20, _ => zs_486
  | n + 21, h => absurd h (by omega)
theorem zmx_14 : ∀ (i : Nat), i < 21 → zSx[zmom i + 14]? = some (.inl (6, [some (some (zmom i + 15))]))
  | 0, _ => zs_127
  | 1, _ => zs_145
  | 2, _ => zs_163
  | 3, _ => zs_181
  | 4, _ => zs_199
  | 5, _ => zs_217
  | 6, _ => zs_235
  | 7, _ => zs_253
  | 8, _ => zs_271
  | 9, _ => zs_289
  | 10, _ => zs_307
  | 11, _ => zs_325
  | 12, _ => zs_343
  | 13, _ => zs_361
  | 14, _ => zs_379
  | 15, _ => zs_397
  | 16, _ => zs_415
  | 17, _ => zs_433
  | 18, _ => zs_451
  | 19, _ => zs_469
  | 20, _ => zs_487
  | n + 21, h => absurd h (by omega)
theorem zmx_15 : ∀ (i : Nat), i < 21 → zSx[zmom i + 15]? = some (.inr (.inl (0, 100)))
  | 0, _ => zs_128
  | 1, _ => zs_146
  | 2, _ => zs_164
  | 3, _ => zs_182
  | 4, _ => zs_200
  | 5, _ => zs_218
  | 6, _ => zs_236
  | 7, _ => zs_254
  | 8, _ => zs_272
  | 9, _ => zs_290
  | 10, _ => zs_308
  | 11, _ => zs_326
  | 12, _ => zs_344
  | 13, _ => zs_362
  | 14, _ => zs_380
  | 15, _ => zs_398
  | 16, _ => zs_416
  | 17, _ => zs_434
  | 18, _ => zs_452
  | 19, _ => zs_470
  | 20, _ => zs_488
  | n + 21, h => absurd h (by omega)
theorem zmx_16 : ∀ (i : Nat), i < 21 → zSx[zmom i + 16]? = some (.inl (6, [some (some (zmom i + 17))]))
  | 0, _ => zs_129
  | 1, _ => zs_147
  | 2, _ => zs_165
  | 3, _ => zs_183
  | 4, _ => zs_201
  | 5, _ => zs_219
  | 6, _ => zs_237
  | 7, _ => zs_255
  | 8, _ => zs_273
  | 9, _ => zs_291
  | 10, _ => zs_309
  | 11, _ => zs_327
  | 12, _ => zs_345
  | 13, _ => zs_363
  | 14, _ => zs_381
  | 15, _ => zs_399
  | 16, _ => zs_417
  | 17, _ => zs_435
  | 18, _ => zs_453
  | 19, _ => zs_471
  | 20, _ => zs_489
  | n + 21, h => absurd h (by omega)
theorem zmx_17 : ∀ (i : Nat), i < 21 → zSx[zmom i + 17]? = some (.inr (.inl (0, 100)))
  | 0, _ => zs_130
  | 1, _ => zs_148
  | 2, _ => zs_166
  | 3, _ => zs_184
  | 4, _ => zs_202
  | 5, _ => zs_220
  | 6, _ => zs_238
  | 7, _ => zs_256
  | 8, _ => zs_274
  | 9, _ => zs_292
  | 10, _ => zs_310
  | 11, _ => zs_328
  | 12, _ => zs_346
  | 13, _ => zs_364
  | 14, _ => zs_382
  | 15, _ => zs_400
  | 16, _ => zs_418
  | 17, _ => zs_436
  | 18, _ => zs_454
  | 19, _ => zs_472
  | 20, _ => zs_490
  | n + 21, h => absurd h (by omega)
theorem zmom_x (i : Nat) (hi : i < 21) : zIsMoment zSx (zmom i) := ⟨zmx_0 i hi, ⟨zmx_1 i hi, zmx_2 i hi⟩, ⟨zmx_3 i hi, ⟨zmx_4 i hi, zmx_5 i hi⟩, ⟨zmx_6 i hi, zmx_7 i hi⟩, ⟨zmx_8 i hi, zmx_9 i hi⟩, ⟨zmx_10 i hi, zmx_11 i hi⟩, ⟨zmx_12 i hi, zmx_13 i hi⟩⟩, ⟨zmx_14 i hi, zmx_15 i hi⟩, ⟨zmx_16 i hi, zmx_17 i hi⟩⟩
theorem zmom_is {S : List zC} (h : zOkX S) {i : Nat} (hi : i < 21) : zIsMoment S (zmom i) := .of h (zmom_x i hi)
abbrev zmoms : List (Option Nat) := [some 113, some 131, some 149, some 167, some 185, some 203, some 221, some 239, some 257, some 275, some 293, some 311, some 329, some 347, some 365, some 383, some 401, some 419, some 437, some 455, some 473]
theorem zmoms_get : ∀ i, i < 21 → zmoms[i]? = some (some (zmom i)) := by decide +kernel
set_option maxRecDepth 10000 in
theorem zs_0 : zSx[0]? = some (.inl (11, [some (some 1), none, some (some 3), some (some 4), none, none, none, none, some (some 22), some (some 24), some (some 43), some (some 64), some (some 69), some (some 88), some (some 97), some (some 100), some (some 109), some (some 111), none])) := by decide +kernel
set_option maxRecDepth 10000 in
theorem zs_1 : zSx[1]? = some (.inl (6, [some (some 2)])) := by decide +kernel
set_option maxRecDepth 10000 in
theorem zs_2 : zSx[2]? = some (.inr (.inl (0, 200))) := by decide +kernel
set_option maxRecDepth 10000 in
theorem zs_3 : zSx[3]? = some (.inr (.inr (2, [some 113, some 131, some 149, some 167, some 185, some 203, some 221, some 239, some 257, some 275, some 293, some 311, some 329, some 347, some 365, some 383, some 401, some 419, some 437, some 455, some 473]))) := by decide +kernel
set_option maxRecDepth 10000 in
theorem zs_4 : zSx[4]? = some (.inl (2, [some (some 5), none, some (some 7), none, some (some 18), some (some 20), none, none, none])) := by decide +kernel
set_option maxRecDepth 10000 in
theorem zs_5 : zSx[5]? = some (.inl (6, [some (some 6)])) := by decide +kernel
set_option maxRecDepth 10000 in
theorem zs_6 : zSx[6]? = some (.inr (.inl (0, 300))) := by decide +kernel
set_option maxRecDepth 10000 in
theorem zs_7 : zSx[7]? = some (.inl (8, [some (some 8), some (some 10), some (some 12), some (some 14), some (some 16), none])) := by decide +kernel
set_option maxRecDepth 10000 in
theorem zs_8 : zSx[8]? = some (.inl (6, [some (some 9)])) := by decide +kernel
set_option maxRecDepth 10000 in
theorem zs_9 : zSx[9]? = some (.inr (.inl (0, 100))) := by decide +kernel
set_option maxRecDepth 10000 in
theorem zs_10 : zSx[10]? = some (.inl (6, [some (some 11)])) := by decide +kernel
set_option maxRecDepth 10000 in
theorem zs_11 : zSx[11]? = some (.inr (.inl (0, 100))) := by decide +kernel
set_option maxRecDepth 10000 in
theorem zs_12 : zSx[12]? = some (.inl (6, [some (some 13)])) := by decide +kernel
set_option maxRecDepth 10000 in
theorem zs_13 : zSx[13]? = some (.inr (.inl (0, 100))) := by decide +kernel
set_option maxRecDepth 10000 in
theorem zs_14 : zSx[14]? = some (.inl (6, [some (some 15)])) := by decide +kernel
set_option maxRecDepth 10000 in
theorem zs_15 : zSx[15]? = some (.inr (.inl (0, 100))) := by decide +kernel
set_option maxRecDepth 10000 in
theorem zs_16 : zSx[16]? = some (.inl (6, [some (some 17)])) := by decide +kernel
set_option maxRecDepth 10000 in
theorem zs_17 : zSx[17]? = some (.inr (.inl (0, 100))) := by decide +kernel
set_option maxRecDepth 10000 in
theorem zs_18 : zSx[18]? = some (.inl (6, [some (some 19)])) := by decide +kernel
set_option maxRecDepth 10000 in
theorem zs_19 : zSx[19]? = some (.inr (.inl (0, 100))) := by decide +kernel
set_option maxRecDepth 10000 in
theorem zs_20 : zSx[20]? = some (.inl (6, [some (some 21)])) := by decide +kernel
set_option maxRecDepth 10000 in
theorem zs_21 : zSx[21]? = some (.inr (.inl (0, 100))) := by decide +kernel
set_option maxRecDepth 10000 in
theorem zs_22 : zSx[22]? = some (.inl (6, [some (some 23)])) := by decide +kernel
set_option maxRecDepth 10000 in
theorem zs_23 : zSx[23]? = some (.inr (.inl (0, 10))) := by decide +kernel
set_option maxRecDepth 10000 in
theorem zs_24 : zSx[24]? = some (.inl (3, [some (some 25), some (some 27), some (some 29), some (some 31), some (some 33), some (some 35), some (some 37), some (some 39), some (some 41), none])) := by decide +kernel
set_option maxRecDepth 10000 in
theorem zs_25 : zSx[25]? = some (.inl (6, [some (some 26)])) := by decide +kernel
set_option maxRecDepth 10000 in
theorem zs_26 : zSx[26]? = some (.inr (.inl (0, 3400))) := by decide +kernel
set_option maxRecDepth 10000 in
theorem zs_27 : zSx[27]? = some (.inl (6, [some (some 28)])) := by decide +kernel
set_option maxRecDepth 10000 in
theorem zs_28 : zSx[28]? = some (.inr (.inl (0, 3400))) := by decide +kernel
set_option maxRecDepth 10000 in
theorem zs_29 : zSx[29]? = some (.inl (6, [some (some 30)])) := by decide +kernel
set_option maxRecDepth 10000 in
theorem zs_30 : zSx[30]? = some (.inr (.inl (0, 3400))) := by decide +kernel
set_option maxRecDepth 10000 in
theorem zs_31 : zSx[31]? = some (.inl (6, [some (some 32)])) := by decide +kernel
set_option maxRecDepth 10000 in
theorem zs_32 : zSx[32]? = some (.inr (.inl (0, 3400))) := by decide +kernel
set_option maxRecDepth 10000 in
theorem zs_33 : zSx[33]? = some (.inl (6, [some (some 34)])) := by decide +kernel
set_option maxRecDepth 10000 in
theorem zs_34 : zSx[34]? = some (.inr (.inl (0, 3400))) := by decide +kernel
set_option maxRecDepth 10000 in
theorem zs_35 : zSx[35]? = some (.inl (6, [some (some 36)])) := by decide +kernel
set_option maxRecDepth 10000 in
theorem zs_36 : zSx[36]? = some (.inr (.inl (0, 3400))) := by decide +kernel
set_option maxRecDepth 10000 in
theorem zs_37 : zSx[37]? = some (.inl (6, [some (some 38)])) := by decide +kernel
set_option maxRecDepth 10000 in
theorem zs_38 : zSx[38]? = some (.inr (.inl (0, 3400))) := by decide +kernel
set_option maxRecDepth 10000 in
theorem zs_39 : zSx[39]? = some (.inl (6, [some (some 40)])) := by decide +kernel
set_option maxRecDepth 10000 in
theorem zs_40 : zSx[40]? = some (.inr (.inl (0, 3400))) := by decide +kernel
set_option maxRecDepth 10000 in
theorem zs_41 : zSx[41]? = some (.inl (6, [some (some 42)])) := by decide +kernel
set_option maxRecDepth 10000 in
theorem zs_42 : zSx[42]? = some (.inr (.inl (0, 13600))) := by decide +kernel
set_option maxRecDepth 10000 in
theorem zs_43 : zSx[43]? = some (.inl (9, [some (some 24), some (some 44), some (some 46), some (some 48), some (some 50), some (some 52), some (some 54), some (some 56), some (some 58), some (some 60), some (some 62), none, none, none, none, none])) := by decide +kernel
set_option maxRecDepth 10000 in
theorem zs_44 : zSx[44]? = some (.inl (6, [some (some 45)])) := by decide +kernel
set_option maxRecDepth 10000 in
theorem zs_45 : zSx[45]? = some (.inr (.inl (0, 400))) := by decide +kernel
set_option maxRecDepth 10000 in
theorem zs_46 : zSx[46]? = some (.inl (6, [some (some 47)])) := by decide +kernel
set_option maxRecDepth 10000 in
theorem zs_47 : zSx[47]? = some (.inr (.inl (0, 3400))) := by decide +kernel
set_option maxRecDepth 10000 in
theorem zs_48 : zSx[48]? = some (.inl (6, [some (some 49)])) := by decide +kernel
set_option maxRecDepth 10000 in
theorem zs_49 : zSx[49]? = some (.inr (.inl (0, 400))) := by decide +kernel
set_option maxRecDepth 10000 in
theorem zs_50 : zSx[50]? = some (.inl (6, [some (some 51)])) := by decide +kernel
set_option maxRecDepth 10000 in
theorem zs_51 : zSx[51]? = some (.inr (.inl (0, 400))) := by decide +kernel
set_option maxRecDepth 10000 in
theorem zs_52 : zSx[52]? = some (.inl (6, [some (some 53)])) := by decide +kernel
set_option maxRecDepth 10000 in
theorem zs_53 : zSx[53]? = some (.inr (.inl (0, 400))) := by decide +kernel
set_option maxRecDepth 10000 in
theorem zs_54 : zSx[54]? = some (.inl (6, [some (some 55)])) := by decide +kernel
set_option maxRecDepth 10000 in
theorem zs_55 : zSx[55]? = some (.inr (.inl (0, 400))) := by decide +kernel
set_option maxRecDepth 10000 in
theorem zs_56 : zSx[56]? = some (.inl (6, [some (some 57)])) := by decide +kernel
set_option maxRecDepth 10000 in
theorem zs_57 : zSx[57]? = some (.inr (.inl (0, 400))) := by decide +kernel
set_option maxRecDepth 10000 in
theorem zs_58 : zSx[58]? = some (.inl (6, [some (some 59)])) := by decide +kernel
set_option maxRecDepth 10000 in
theorem zs_59 : zSx[59]? = some (.inr (.inl (0, 400))) := by decide +kernel
set_option maxRecDepth 10000 in
theorem zs_60 : zSx[60]? = some (.inl (6, [some (some 61)])) := by decide +kernel
set_option maxRecDepth 10000 in
theorem zs_61 : zSx[61]? = some (.inr (.inl (0, 11))) := by decide +kernel
set_option maxRecDepth 10000 in
theorem zs_62 : zSx[62]? = some (.inl (6, [some (some 63)])) := by decide +kernel
set_option maxRecDepth 10000 in
theorem zs_63 : zSx[63]? = some (.inr (.inl (0, 100))) := by decide +kernel
set_option maxRecDepth 10000 in
theorem zs_64 : zSx[64]? = some (.inl (1, [some (some 24), some (some 43), some (some 65), some (some 67), none, none, none, none, none, none, none, none, none, none])) := by decide +kernel
set_option maxRecDepth 10000 in
theorem zs_65 : zSx[65]? = some (.inl (6, [some (some 66)])) := by decide +kernel
set_option maxRecDepth 10000 in
theorem zs_66 : zSx[66]? = some (.inr (.inl (0, 300))) := by decide +kernel
set_option maxRecDepth 10000 in
theorem zs_67 : zSx[67]? = some (.inl (6, [some (some 68)])) := by decide +kernel
set_option maxRecDepth 10000 in
theorem zs_68 : zSx[68]? = some (.inr (.inl (0, 300))) := by decide +kernel
set_option maxRecDepth 10000 in
theorem zs_69 : zSx[69]? = some (.inl (7, [some (some 24), some (some 43), some (some 70), some (some 72), some (some 74), some (some 76), some (some 78), some (some 80), some (some 82), some (some 84), some (some 86), none, none, none, none, none, none])) := by decide +kernel
set_option maxRecDepth 10000 in
theorem zs_70 : zSx[70]? = some (.inl (6, [some (some 71)])) := by decide +kernel
set_option maxRecDepth 10000 in
theorem zs_71 : zSx[71]? = some (.inr (.inl (0, 100))) := by decide +kernel
set_option maxRecDepth 10000 in
theorem zs_72 : zSx[72]? = some (.inl (6, [some (some 73)])) := by decide +kernel
set_option maxRecDepth 10000 in
theorem zs_73 : zSx[73]? = some (.inr (.inl (0, 100))) := by decide +kernel
set_option maxRecDepth 10000 in
theorem zs_74 : zSx[74]? = some (.inl (6, [some (some 75)])) := by decide +kernel
set_option maxRecDepth 10000 in
theorem zs_75 : zSx[75]? = some (.inr (.inl (0, 100))) := by decide +kernel
set_option maxRecDepth 10000 in
theorem zs_76 : zSx[76]? = some (.inl (6, [some (some 77)])) := by decide +kernel
set_option maxRecDepth 10000 in
theorem zs_77 : zSx[77]? = some (.inr (.inl (0, 100))) := by decide +kernel
set_option maxRecDepth 10000 in
theorem zs_78 : zSx[78]? = some (.inl (6, [some (some 79)])) := by decide +kernel
set_option maxRecDepth 10000 in
theorem zs_79 : zSx[79]? = some (.inr (.inl (0, 100))) := by decide +kernel
set_option maxRecDepth 10000 in
theorem zs_80 : zSx[80]? = some (.inl (6, [some (some 81)])) := by decide +kernel
set_option maxRecDepth 10000 in
theorem zs_81 : zSx[81]? = some (.inr (.inl (0, 100))) := by decide +kernel
set_option maxRecDepth 10000 in
theorem zs_82 : zSx[82]? = some (.inl (6, [some (some 83)])) := by decide +kernel
set_option maxRecDepth 10000 in
theorem zs_83 : zSx[83]? = some (.inr (.inl (0, 400))) := by decide +kernel
set_option maxRecDepth 10000 in
theorem zs_84 : zSx[84]? = some (.inl (6, [some (some 85)])) := by decide +kernel
set_option maxRecDepth 10000 in
theorem zs_85 : zSx[85]? = some (.inr (.inl (0, 3400))) := by decide +kernel
set_option maxRecDepth 10000 in
theorem zs_86 : zSx[86]? = some (.inl (6, [some (some 87)])) := by decide +kernel
set_option maxRecDepth 10000 in
theorem zs_87 : zSx[87]? = some (.inr (.inl (0, 25600))) := by decide +kernel
set_option maxRecDepth 10000 in
theorem zs_88 : zSx[88]? = some (.inl (4, [some (some 89), some (some 91), some (some 93), some (some 95), none])) := by decide +kernel
set_option maxRecDepth 10000 in
theorem zs_89 : zSx[89]? = some (.inl (6, [some (some 90)])) := by decide +kernel
set_option maxRecDepth 10000 in
theorem zs_90 : zSx[90]? = some (.inr (.inl (0, 4000))) := by decide +kernel
set_option maxRecDepth 10000 in
theorem zs_91 : zSx[91]? = some (.inl (6, [some (some 92)])) := by decide +kernel
set_option maxRecDepth 10000 in
theorem zs_92 : zSx[92]? = some (.inr (.inl (0, 4000))) := by decide +kernel
set_option maxRecDepth 10000 in
theorem zs_93 : zSx[93]? = some (.inl (6, [some (some 94)])) := by decide +kernel
set_option maxRecDepth 10000 in
theorem zs_94 : zSx[94]? = some (.inr (.inl (0, 4000))) := by decide +kernel
set_option maxRecDepth 10000 in
theorem zs_95 : zSx[95]? = some (.inl (6, [some (some 96)])) := by decide +kernel
set_option maxRecDepth 10000 in
theorem zs_96 : zSx[96]? = some (.inr (.inl (0, 7400))) := by decide +kernel
set_option maxRecDepth 10000 in
theorem zs_97 : zSx[97]? = some (.inl (5, [some (some 24), some (some 98), none, none])) := by decide +kernel
set_option maxRecDepth 10000 in
theorem zs_98 : zSx[98]? = some (.inl (6, [some (some 99)])) := by decide +kernel
set_option maxRecDepth 10000 in
theorem zs_99 : zSx[99]? = some (.inr (.inl (0, 1000))) := by decide +kernel
set_option maxRecDepth 10000 in
theorem zs_100 : zSx[100]? = some (.inl (0, [some (some 101), some (some 104), some (some 107), none, none])) := by decide +kernel
set_option maxRecDepth 10000 in
theorem zs_101 : zSx[101]? = some (.inl (10, [some (some 102), none])) := by decide +kernel
set_option maxRecDepth 10000 in
theorem zs_102 : zSx[102]? = some (.inl (6, [some (some 103)])) := by decide +kernel
set_option maxRecDepth 10000 in
theorem zs_103 : zSx[103]? = some (.inr (.inl (0, 300))) := by decide +kernel
set_option maxRecDepth 10000 in
theorem zs_104 : zSx[104]? = some (.inl (10, [some (some 105), none])) := by decide +kernel
set_option maxRecDepth 10000 in
theorem zs_105 : zSx[105]? = some (.inl (6, [some (some 106)])) := by decide +kernel
set_option maxRecDepth 10000 in
theorem zs_106 : zSx[106]? = some (.inr (.inl (0, 300))) := by decide +kernel
set_option maxRecDepth 10000 in
theorem zs_107 : zSx[107]? = some (.inl (6, [some (some 108)])) := by decide +kernel
set_option maxRecDepth 10000 in
theorem zs_108 : zSx[108]? = some (.inr (.inl (0, 101))) := by decide +kernel
set_option maxRecDepth 10000 in
theorem zs_109 : zSx[109]? = some (.inl (6, [some (some 110)])) := by decide +kernel
set_option maxRecDepth 10000 in
theorem zs_110 : zSx[110]? = some (.inr (.inl (0, 700))) := by decide +kernel
set_option maxRecDepth 10000 in
theorem zs_111 : zSx[111]? = some (.inl (6, [some (some 112)])) := by decide +kernel
set_option maxRecDepth 10000 in
theorem zs_112 : zSx[112]? = some (.inr (.inl (0, 700))) := by decide +kernel
set_option maxRecDepth 10000 in
theorem zs_491 : zS0[491]? = some (.inl (12, [none, some (some 492), some (some 493), none, some (some 494), none, some (some 495), none, none, none, some (some 496), some (some 497), some (some 498), some (some 499), some (some 500), none, some (some 501), some (some 502), some (some 503), none, some (some 504), some (some 505), some (some 506), some (some 507), some (some 508), none, some (some 509), some (some 510), some (some 511), some (some 512), some (some 513), some (some 514), some (some 515), some (some 516), some (some 517), some (some 518), none, none, some (some 519), none, some (some 520), none, none, none, some (some 521), some (some 522), some (some 523), some (some 524), some (some 525), some (some 526), some (some 527), none, some (some 528), none, some (some 529), none, some (some 530), some (some 531), some (some 532), none, some (some 533), some (some 534), some (some 535), some (some 536), some (some 537), none, none, none, some (some 538), some (some 539), some (some 540), none, none, none, some (some 541), none, none, some (some 542), some (some 543), some (some 544), none, some (some 545)])) := by decide +kernel
set_option maxRecDepth 10000 in
theorem zs_492 : zS0[492]? = some (.inr (.inl (0, 220))) := by decide +kernel
set_option maxRecDepth 10000 in
theorem zs_493 : zS0[493]? = some (.inr (.inl (0, 700))) := by decide +kernel
set_option maxRecDepth 10000 in
theorem zs_494 : zS0[494]? = some (.inr (.inl (0, 300))) := by decide +kernel
set_option maxRecDepth 10000 in
theorem zs_495 : zS0[495]? = some (.inr (.inl (0, 300))) := by decide +kernel
set_option maxRecDepth 10000 in
theorem zs_496 : zS0[496]? = some (.inr (.inl (0, 710))) := by decide +kernel
set_option maxRecDepth 10000 in
theorem zs_497 : zS0[497]? = some (.inr (.inl (0, 710))) := by decide +kernel
set_option maxRecDepth 10000 in
theorem zs_498 : zS0[498]? = some (.inr (.inl (0, 710))) := by decide +kernel
set_option maxRecDepth 10000 in
theorem zs_499 : zS0[499]? = some (.inr (.inl (1, 710))) := by decide +kernel
set_option maxRecDepth 10000 in
theorem zs_500 : zS0[500]? = some (.inr (.inl (0, 110))) := by decide +kernel
set_option maxRecDepth 10000 in
theorem zs_501 : zS0[501]? = some (.inr (.inl (0, 110))) := by decide +kernel
set_option maxRecDepth 10000 in
theorem zs_502 : zS0[502]? = some (.inr (.inl (0, 110))) := by decide +kernel
set_option maxRecDepth 10000 in
theorem zs_503 : zS0[503]? = some (.inr (.inl (0, 110))) := by decide +kernel
set_option maxRecDepth 10000 in
theorem zs_504 : zS0[504]? = some (.inr (.inl (0, 110))) := by decide +kernel
set_option maxRecDepth 10000 in
theorem zs_505 : zS0[505]? = some (.inr (.inl (0, 110))) := by decide +kernel
set_option maxRecDepth 10000 in
theorem zs_506 : zS0[506]? = some (.inr (.inl (0, 110))) := by decide +kernel
set_option maxRecDepth 10000 in
theorem zs_507 : zS0[507]? = some (.inr (.inl (1, 110))) := by decide +kernel
set_option maxRecDepth 10000 in
theorem zs_508 : zS0[508]? = some (.inr (.inl (0, 110))) := by decide +kernel
set_option maxRecDepth 10000 in
theorem zs_509 : zS0[509]? = some (.inr (.inl (0, 3700))) := by decide +kernel
set_option maxRecDepth 10000 in
theorem zs_510 : zS0[510]? = some (.inr (.inl (0, 3700))) := by decide +kernel
set_option maxRecDepth 10000 in
theorem zs_511 : zS0[511]? = some (.inr (.inl (1, 3700))) := by decide +kernel
set_option maxRecDepth 10000 in
theorem zs_512 : zS0[512]? = some (.inr (.inl (0, 3700))) := by decide +kernel
set_option maxRecDepth 10000 in
theorem zs_513 : zS0[513]? = some (.inr (.inl (0, 14800))) := by decide +kernel
set_option maxRecDepth 10000 in
theorem zs_514 : zS0[514]? = some (.inr (.inl (0, 3700))) := by decide +kernel
set_option maxRecDepth 10000 in
theorem zs_515 : zS0[515]? = some (.inr (.inl (0, 3700))) := by decide +kernel
set_option maxRecDepth 10000 in
theorem zs_516 : zS0[516]? = some (.inr (.inl (0, 3700))) := by decide +kernel
set_option maxRecDepth 10000 in
theorem zs_517 : zS0[517]? = some (.inr (.inl (0, 3700))) := by decide +kernel
set_option maxRecDepth 10000 in
theorem zs_518 : zS0[518]? = some (.inr (.inl (0, 185000))) := by decide +kernel
set_option maxRecDepth 10000 in
theorem zs_519 : zS0[519]? = some (.inr (.inl (0, 400))) := by decide +kernel
set_option maxRecDepth 10000 in
theorem zs_520 : zS0[520]? = some (.inr (.inl (0, 120))) := by decide +kernel
set_option maxRecDepth 10000 in
theorem zs_521 : zS0[521]? = some (.inr (.inl (0, 700))) := by decide +kernel
set_option maxRecDepth 10000 in
theorem zs_522 : zS0[522]? = some (.inr (.inl (0, 700))) := by decide +kernel
set_option maxRecDepth 10000 in
theorem zs_523 : zS0[523]? = some (.inr (.inl (0, 3700))) := by decide +kernel
set_option maxRecDepth 10000 in
theorem zs_524 : zS0[524]? = some (.inr (.inl (0, 3700))) := by decide +kernel
set_option maxRecDepth 10000 in
theorem zs_525 : zS0[525]? = some (.inr (.inl (0, 3700))) := by decide +kernel
set_option maxRecDepth 10000 in
theorem zs_526 : zS0[526]? = some (.inr (.inl (0, 3700))) := by decide +kernel
set_option maxRecDepth 10000 in
theorem zs_527 : zS0[527]? = some (.inr (.inl (0, 700))) := by decide +kernel
set_option maxRecDepth 10000 in
theorem zs_528 : zS0[528]? = some (.inr (.inl (0, 110))) := by decide +kernel
set_option maxRecDepth 10000 in
theorem zs_529 : zS0[529]? = some (.inr (.inl (0, 110))) := by decide +kernel
set_option maxRecDepth 10000 in
theorem zs_530 : zS0[530]? = some (.inr (.inl (1, 60))) := by decide +kernel
set_option maxRecDepth 10000 in
theorem zs_531 : zS0[531]? = some (.inr (.inl (0, 60))) := by decide +kernel
set_option maxRecDepth 10000 in
theorem zs_532 : zS0[532]? = some (.inr (.inl (0, 3700))) := by decide +kernel
set_option maxRecDepth 10000 in
theorem zs_533 : zS0[533]? = some (.inr (.inl (0, 4100))) := by decide +kernel
set_option maxRecDepth 10000 in
theorem zs_534 : zS0[534]? = some (.inr (.inl (0, 4100))) := by decide +kernel
set_option maxRecDepth 10000 in
theorem zs_535 : zS0[535]? = some (.inr (.inl (0, 20))) := by decide +kernel
set_option maxRecDepth 10000 in
theorem zs_536 : zS0[536]? = some (.inr (.inl (0, 20))) := by decide +kernel
set_option maxRecDepth 10000 in
theorem zs_537 : zS0[537]? = some (.inr (.inl (0, 20))) := by decide +kernel
set_option maxRecDepth 10000 in
theorem zs_538 : zS0[538]? = some (.inr (.inl (0, 10))) := by decide +kernel
set_option maxRecDepth 10000 in
theorem zs_539 : zS0[539]? = some (.inr (.inl (0, 400))) := by decide +kernel
set_option maxRecDepth 10000 in
theorem zs_540 : zS0[540]? = some (.inr (.inl (0, 400))) := by decide +kernel
set_option maxRecDepth 10000 in
theorem zs_541 : zS0[541]? = some (.inr (.inl (0, 700))) := by decide +kernel
set_option maxRecDepth 10000 in
theorem zs_542 : zS0[542]? = some (.inr (.inl (0, 15120))) := by decide +kernel
set_option maxRecDepth 10000 in
theorem zs_543 : zS0[543]? = some (.inr (.inl (0, 700))) := by decide +kernel
set_option maxRecDepth 10000 in
theorem zs_544 : zS0[544]? = some (.inr (.inl (0, 1000))) := by decide +kernel
set_option maxRecDepth 10000 in
theorem zs_545 : zS0[545]? = some (.inr (.inl (0, 1000))) := by decide +kernel
theorem zir_1 : zIsRow zSx 1 200 := ⟨zs_1, zs_2⟩
theorem zir_5 : zIsRow zSx 5 300 := ⟨zs_5, zs_6⟩
theorem zir_8 : zIsRow zSx 8 100 := ⟨zs_8, zs_9⟩
theorem zir_10 : zIsRow zSx 10 100 := ⟨zs_10, zs_11⟩
theorem zir_12 : zIsRow zSx 12 100 := ⟨zs_12, zs_13⟩
theorem zir_14 : zIsRow zSx 14 100 := ⟨zs_14, zs_15⟩
theorem zir_16 : zIsRow zSx 16 100 := ⟨zs_16, zs_17⟩
theorem zir_18 : zIsRow zSx 18 100 := ⟨zs_18, zs_19⟩
theorem zir_20 : zIsRow zSx 20 100 := ⟨zs_20, zs_21⟩
theorem zir_22 : zIsRow zSx 22 10 := ⟨zs_22, zs_23⟩
theorem zir_25 : zIsRow zSx 25 3400 := ⟨zs_25, zs_26⟩
theorem zir_27 : zIsRow zSx 27 3400 := ⟨zs_27, zs_28⟩
theorem zir_29 : zIsRow zSx 29 3400 := ⟨zs_29, zs_30⟩
theorem zir_31 : zIsRow zSx 31 3400 := ⟨zs_31, zs_32⟩
theorem zir_33 : zIsRow zSx 33 3400 := ⟨zs_33, zs_34⟩
theorem zir_35 : zIsRow zSx 35 3400 := ⟨zs_35, zs_36⟩
theorem zir_37 : zIsRow zSx 37 3400 := ⟨zs_37, zs_38⟩
theorem zir_39 : zIsRow zSx 39 3400 := ⟨zs_39, zs_40⟩
theorem zir_41 : zIsRow zSx 41 13600 := ⟨zs_41, zs_42⟩
theorem zir_44 : zIsRow zSx 44 400 := ⟨zs_44, zs_45⟩
theorem zir_46 : zIsRow zSx 46 3400 := ⟨zs_46, zs_47⟩
theorem zir_48 : zIsRow zSx 48 400 := ⟨zs_48, zs_49⟩
theorem zir_50 : zIsRow zSx 50 400 := ⟨zs_50, zs_51⟩
theorem zir_52 : zIsRow zSx 52 400 := ⟨zs_52, zs_53⟩
theorem zir_54 : zIsRow zSx 54 400 := ⟨zs_54, zs_55⟩
theorem zir_56 : zIsRow zSx 56 400 := ⟨zs_56, zs_57⟩
theorem zir_58 : zIsRow zSx 58 400 := ⟨zs_58, zs_59⟩
theorem zir_60 : zIsRow zSx 60 11 := ⟨zs_60, zs_61⟩
theorem zir_62 : zIsRow zSx 62 100 := ⟨zs_62, zs_63⟩
theorem zir_65 : zIsRow zSx 65 300 := ⟨zs_65, zs_66⟩
theorem zir_67 : zIsRow zSx 67 300 := ⟨zs_67, zs_68⟩
theorem zir_70 : zIsRow zSx 70 100 := ⟨zs_70, zs_71⟩
theorem zir_72 : zIsRow zSx 72 100 := ⟨zs_72, zs_73⟩
theorem zir_74 : zIsRow zSx 74 100 := ⟨zs_74, zs_75⟩
theorem zir_76 : zIsRow zSx 76 100 := ⟨zs_76, zs_77⟩
theorem zir_78 : zIsRow zSx 78 100 := ⟨zs_78, zs_79⟩
theorem zir_80 : zIsRow zSx 80 100 := ⟨zs_80, zs_81⟩
theorem zir_82 : zIsRow zSx 82 400 := ⟨zs_82, zs_83⟩
theorem zir_84 : zIsRow zSx 84 3400 := ⟨zs_84, zs_85⟩
theorem zir_86 : zIsRow zSx 86 25600 := ⟨zs_86, zs_87⟩
theorem zir_89 : zIsRow zSx 89 4000 := ⟨zs_89, zs_90⟩
theorem zir_91 : zIsRow zSx 91 4000 := ⟨zs_91, zs_92⟩
theorem zir_93 : zIsRow zSx 93 4000 := ⟨zs_93, zs_94⟩
theorem zir_95 : zIsRow zSx 95 7400 := ⟨zs_95, zs_96⟩
theorem zir_98 : zIsRow zSx 98 1000 := ⟨zs_98, zs_99⟩
theorem zir_102 : zIsRow zSx 102 300 := ⟨zs_102, zs_103⟩
theorem zir_105 : zIsRow zSx 105 300 := ⟨zs_105, zs_106⟩
theorem zir_107 : zIsRow zSx 107 101 := ⟨zs_107, zs_108⟩
theorem zir_109 : zIsRow zSx 109 700 := ⟨zs_109, zs_110⟩
theorem zir_111 : zIsRow zSx 111 700 := ⟨zs_111, zs_112⟩
theorem zit_4 : zIsMoment zSx 4 := ⟨zs_4, zir_5, ⟨zs_7, zir_8, zir_10, zir_12, zir_14, zir_16⟩, zir_18, zir_20⟩
theorem zit_101 : zIsTrial zSx 101 := ⟨zs_101, zir_102⟩
theorem zit_104 : zIsTrial zSx 104 := ⟨zs_104, zir_105⟩
/-! ===== what a method's end says ===== -/
theorem zpd_I : parseFieldDescriptor "I" = some .int := by decide +kernel
theorem zpd_Z : parseFieldDescriptor "Z" = some .boolean := by decide +kernel
def zb (v : Int32) : Prop := v = 0 ∨ v = 1
theorem zb_0 : zb 0 := Or.inl rfl
theorem zb_1 : zb 1 := Or.inr rfl
theorem zb.nar {v : Int32} (h : zb v) : narrow .boolean (.int v) = .int v := by
  rcases h with rfl | rfl <;> rfl
theorem zb.fit {v : Int32} (h : zb v) : fits .boolean (.int v) = true := by
  rcases h with rfl | rfl <;> rfl
def zrm (f n : Nat) : Room := { frames := f, cells := 0, slots := 0, locals := n }
def zqI (S : List zC) (K : Int32 → zI → Prop) : Option Value → List zC → zI → Prop := fun r S2 I2 => S2 = S ∧ ∃ v, r = some (.int v) ∧ K v I2
def zqV (S : List zC) (K : zI → Prop) : Option Value → List zC → zI → Prop := fun r S2 I2 => S2 = S ∧ r = none ∧ K I2
def zpI (S : List zC) (I : zI) (K : Int32 → Prop) : Option Value → List zC → zI → Prop := fun r S2 I2 => S2 = S ∧ I2 = I ∧ ∃ v, r = some (.int v) ∧ K v
def zpJ (S : List zC) (I : zI) (K : Int64 → Prop) : Option Value → List zC → zI → Prop := fun r S2 I2 => S2 = S ∧ I2 = I ∧ ∃ v, r = some (.long v) ∧ K v
def zpR (B : Nat) (S : List zC) (I : zI) (K : Nat → Prop) : Option Value → List zC → zI → Prop := fun r S2 I2 => S2 = S ∧ I2 = I ∧ ∃ v, r = some (.ref (B + v)) ∧ zIsMoment S v ∧ K v
theorem zif_pos {c : Prop} [Decidable c] {A A' : Prop} (hc : c) (h : if c then A else A') : A := by rwa [if_pos hc] at h
theorem zif_neg {c : Prop} [Decidable c] {A A' : Prop} (hc : ¬ c) (h : if c then A else A') : A' := by rwa [if_neg hc] at h
theorem zjn {A G : Prop} (a : A) (f : A → G) : G := f a
theorem ztab_out {x : Int32} {lo hi : Int} (h : ∀ i : Int, lo ≤ i → i ≤ hi → ¬ x = Int32.ofInt i) : x.toInt < lo ∨ hi < x.toInt := by
  by_cases h1 : x.toInt < lo
  · exact Or.inl h1
  · by_cases h2 : hi < x.toInt
    · exact Or.inr h2
    · exact absurd (Int32.ofInt_toInt x).symm (h x.toInt (by omega) (by omega))
section ZY
variable {p : Program} {l : Launch} {e : Env} {R : Room} {s : State} {m : MethodId} {args : Array Value} {below : List Frame} {meth : Method} {c : Code} {Q : State → Prop} {D : va_G} {B : Nat} {cA : Nat → ClassId} {ad : Nat → Nat} {cc : ByteArray} {nL : Nat} {own : String} {ret : Option FieldType} {cells slots : Nat} {S : List zC} {I : zI} {lv : List (Nat × Value)} {st : List Value} {pc : Nat}
theorem zn_istore_n (C : zCx p s m args meth c cc nL own ret D B cA ad) {k : Fin 4} {i : Nat} {x : Int32} (lv2 : Int32 → List (Nat × Value)) (hd : decode cc pc = .ok (.istore_n k, 1)) (hi : (k : Nat) = i) (hn : i < nL) (hl : ∀ v, (i, (Value.int v)) :: lv.filter (fun q => !(q.1 == i) && !(q.1 + 1 == i && q.2.category == 2)) = lv2 v) (kk : ∀ v, v = x → zX p l e R s m args below meth c Q D B cA nL cells slots S I (lv2 v) st (pc + 1)) : zX p l e R s m args below meth c Q D B cA nL cells slots S I lv (.int x :: st) pc :=
  zr_istore_n C hd hi hn (hl x) (kk x rfl)
theorem zn_istore (C : zCx p s m args meth c cc nL own ret D B cA ad) {i : Nat} {x : Int32} (lv2 : Int32 → List (Nat × Value)) (hd : decode cc pc = .ok (.istore i, 2)) (hn : i < nL) (hl : ∀ v, (i, (Value.int v)) :: lv.filter (fun q => !(q.1 == i) && !(q.1 + 1 == i && q.2.category == 2)) = lv2 v) (kk : ∀ v, v = x → zX p l e R s m args below meth c Q D B cA nL cells slots S I (lv2 v) st (pc + 2)) : zX p l e R s m args below meth c Q D B cA nL cells slots S I lv (.int x :: st) pc :=
  zr_istore C hd hn (hl x) (kk x rfl)
theorem zn_lstore (C : zCx p s m args meth c cc nL own ret D B cA ad) {i : Nat} {x : Int64} (lv2 : Int64 → List (Nat × Value)) (hd : decode cc pc = .ok (.lstore i, 2)) (hn : i + 1 < nL) (hl : ∀ v, (i, (Value.long v)) :: lv.filter (fun q => !(q.1 == i) && (!(q.1 == i + 1) && !(q.1 + 1 == i && q.2.category == 2))) = lv2 v) (kk : ∀ v, v = x → zX p l e R s m args below meth c Q D B cA nL cells slots S I (lv2 v) st (pc + 2)) : zX p l e R s m args below meth c Q D B cA nL cells slots S I lv (.long x :: st) pc :=
  zr_lstore C hd hn (hl x) (kk x rfl)
theorem zn_iinc (C : zCx p s m args meth c cc nL own ret D B cA ad) {i : Nat} {n : Int} {x w : Int32} (lv2 : Int32 → List (Nat × Value)) (hd : decode cc pc = .ok (.iinc i n, 3)) (j : Nat) (hj : lv[j]? = some (i, .int x)) (hv : Int32.ofInt n = w) (hn : i < nL) (hl : ∀ v, (i, (Value.int v)) :: lv.filter (fun q => !(q.1 == i) && !(q.1 + 1 == i && q.2.category == 2)) = lv2 v) (kk : ∀ v, v = x + w → zX p l e R s m args below meth c Q D B cA nL cells slots S I (lv2 v) st (pc + 3)) : zX p l e R s m args below meth c Q D B cA nL cells slots S I lv st pc :=
  zr_iinc C hd j hj (by rw [hv]) hn (hl (x + w)) (kk (x + w) rfl)
theorem zn_iincW (C : zCx p s m args meth c cc nL own ret D B cA ad) {i : Nat} {n : Int} {x w : Int32} (lv2 : Int32 → List (Nat × Value)) (hd : decode cc pc = .ok (.iinc i n, 6)) (j : Nat) (hj : lv[j]? = some (i, .int x)) (hv : Int32.ofInt n = w) (hn : i < nL) (hl : ∀ v, (i, (Value.int v)) :: lv.filter (fun q => !(q.1 == i) && !(q.1 + 1 == i && q.2.category == 2)) = lv2 v) (kk : ∀ v, v = x + w → zX p l e R s m args below meth c Q D B cA nL cells slots S I (lv2 v) st (pc + 6)) : zX p l e R s m args below meth c Q D B cA nL cells slots S I lv st pc :=
  zr_iincW C hd j hj (by rw [hv]) hn (hl (x + w)) (kk (x + w) rfl)
theorem zn_top (C : zCx p s m args meth c cc nL own ret D B cA ad) {x : Int32} (kk : ∀ v, v = x → zX p l e R s m args below meth c Q D B cA nL cells slots S I lv (.int v :: st) pc) : zX p l e R s m args below meth c Q D B cA nL cells slots S I lv (.int x :: st) pc := kk x rfl
theorem zn_mem (C : zCx p s m args meth c cc nL own ret D B cA ad) {J : zI} (kk : ∀ I2, I2 = J → zX p l e R s m args below meth c Q D B cA nL cells slots S I2 lv st pc) : zX p l e R s m args below meth c Q D B cA nL cells slots S J lv st pc := kk J rfl
theorem zr_alenM (C : zCx p s m args meth c cc nL own ret D B cA ad) {k : Nat} {v : Int32} (xs : List (Option Nat)) (hk : S[k]? = some (.inr (.inr (2, xs)))) (hv : Int32.ofNat xs.length = v) (hd : decode cc pc = .ok (.arraylength, 1)) (kk : zX p l e R s m args below meth c Q D B cA nL cells slots S I lv (.int v :: st) (pc + 1)) : zX p l e R s m args below meth c Q D B cA nL cells slots S I lv (.ref (B + k) :: st) pc :=
  zr_alenR C hk hd (by rw [hv]; exact kk)
theorem zr_acopy (C : zCx p s m args meth c cc nL own ret D B cA ad) {index k0 k n0 n : Nat} {x : Int32} (hk0 : S[k0]? = some (.inr (.inl (0, n0)))) (hk : S[k]? = some (.inr (.inl (0, n)))) (hx : 0 ≤ x ∧ x.toNatClampNeg ≤ n0 ∧ x.toNatClampNeg ≤ n)
    (w1 : Cond.methodLink own index arraycopyName ∈ zTb) (w2 : Cond.native arraycopyName ∈ zTb) (w3 : Cond.static arraycopyName ∈ zTb) (w4 : Cond.initialized "java/lang/System" ∈ zTb) (hR : 1 ≤ R.frames ∧ (st.map fun v => v.category).sum + (nativeFrameWords "java/lang/System" "arraycopy" 5 + 11) ≤ R.locals)
    (hd : decode cc pc = .ok (.invokestatic index, 3)) (kk : zX p l e R s m args below meth c Q D B cA nL cells slots S (zcp I k k0 0 0 x.toNatClampNeg) lv st (pc + 3)) : zX p l e R s m args below meth c Q D B cA nL cells slots S I lv (.int x :: .int 0 :: .ref (B + k) :: .int 0 :: .ref (B + k0) :: st) pc :=
  fun H locs ls a1 a2 a3 a4 => by
    have hg0 := zW_get (B := B) (cA := cA) (I := I) hk0
    have hg := zW_get (B := B) (cA := cA) (I := I) hk
    have hK := C.2.2.2.2.2.2.2.1
    have hW := C.2.2.2.2.1
    have h3 : ¬ x < 0 := Int32.not_lt.mpr hx.1
    have hxi : x.toInt = (x.toNatClampNeg : Int) := by
      have h0 : (0 : Int) ≤ x.toInt := by simpa using Int32.le_iff_toInt_le.mp hx.1
      show x.toInt = ((x.toInt.toNat : Nat) : Int)
      omega
    intro T hT X
    have hc0 := a1 k0 _ hg0
    have hc1 := a1 k _ hg
    obtain ⟨-, q0, hq0, cm0, hqq0⟩ := (hK.2 0 _ rfl).1 n0 (fun j => .int (I.1 k0 j))
    obtain ⟨-, q1, hq1, cm1, hqq1⟩ := (hK.2 0 _ rfl).1 n (fun j => .int (I.1 k j))
    obtain ⟨vm', X', step⟩ := X.arraycopy C.1 C.2.2.2.1 (hW _ w1) (hW _ w2) (hW _ w3) (hW _ w4) (src := B + k0) (dst := B + k) (cs := vp_cell (cA 0) (n0, .inl (I.1 k0))) (cd := vp_cell (cA 0) (n, .inl (I.1 k))) (srcPos := 0) (destPos := 0) (n := x) (by rw [hT]; exact hc0) (by rw [hT]; exact hc1)
      (fun _ h => by cases h) (fun _ h => by cases h) (fun h => by cases h) (fun h => by cases h) hq0 hq1 hqq0 hqq1 (by simp [show refKind .int = false from rfl]) (by decide) (by decide) h3
      (by rw [hxi]; show ¬ _ > ((arrV (cA 0) n0 (fun j => .int (I.1 k0 j))).slots.size : Int); rw [arrV_size]; have := hx.2.1; have e0 : Int32.toInt 0 = 0 := (by decide); omega)
      (by rw [hxi]; show ¬ _ > ((arrV (cA 0) n (fun j => .int (I.1 k j))).slots.size : Int); rw [arrV_size]; have := hx.2.2; have e0 : Int32.toInt 0 = 0 := (by decide); omega)
      (fun vm₁ _ i hi => by
        have e : (vp_cell (cA 0) (n0, .inl (I.1 k0))).slots.getD (Int32.toNatClampNeg 0 + i) .null = .int (I.1 k0 (Int32.toNatClampNeg 0 + i)) := by
          show (arrV (cA 0) n0 (fun j => .int (I.1 k0 j))).slots.getD _ _ = _
          rw [Array.getD_eq_getD_getElem?, arrV_read _ _ (by have := hx.2.1; have e0 : Int32.toNatClampNeg 0 = 0 := (by decide); omega)]
          rfl
        refine ⟨?_, ?_⟩
        · rw [e]
          rfl
        · rw [e]
          exact trivial)
      (g := F0 m pc ls (.int x :: .int 0 :: .ref (B + k) :: .int 0 :: .ref (B + k0) :: st)) rfl (by rw [C.2.2.1]; exact a4.1) (rest := st) rfl (by rw [C.2.1]; exact hd) hR.1 (by have := hR.2; show 2 * 0 + _ + _ ≤ _; omega)
    have e1 : copied (vp_cell (cA 0) (n0, .inl (I.1 k0))) (vp_cell (cA 0) (n, .inl (I.1 k))) 0 0 x = vp_cell (cA 0) (n, .inl (va_cpy (I.1 k0) (I.1 k) 0 0 x.toNatClampNeg)) := va_copied (fun z => .int z) (cA 0) (cA 0) (I.1 k0) (I.1 k) (by have := hx.2.1; have e0 : Int32.toNatClampNeg 0 = 0 := (by decide); omega)
    rw [e1] at X' step
    have hl : B + k < H.size := (Array.getElem?_eq_some_iff.mp hc1).1
    have hheap : ((T.setVm vm').setCell (B + k) (vp_cell (cA 0) (n, .inl (va_cpy (I.1 k0) (I.1 k) 0 0 x.toNatClampNeg)))).heap = H.setIfInBounds (B + k) (vp_cell (cA 0) (n, .inl (va_cpy (I.1 k0) (I.1 k) 0 0 x.toNatClampNeg))) := by rw [← hT]; rfl
    have oq : ∀ q : Nat, q ≠ B + k → (H.setIfInBounds (B + k) (vp_cell (cA 0) (n, .inl (va_cpy (I.1 k0) (I.1 k) 0 0 x.toNatClampNeg))))[q]? = H[q]? := fun q hq => by simp [Array.getElem?_setIfInBounds, Ne.symm hq]
    have hP2 := va_P.set a1 (zD B cA S I) hg (e := .inl (cA 0, n, .inl (va_cpy (I.1 k0) (I.1 k) 0 0 x.toNatClampNeg))) (show (H.setIfInBounds (B + k) _)[B + k]? = some _ by simp [Array.getElem?_setIfInBounds, hl]) oq
    have e : (zW B cA S I).set k (B + k, .inl (cA 0, n, .inl (va_cpy (I.1 k0) (I.1 k) 0 0 x.toNatClampNeg))) = zW B cA S (zcp I k k0 0 0 x.toNatClampNeg) := zW_set hk (fun a ha => zcp_ne ha) (by
      show Sum.inl (cA 0, n, Sum.inl _) = _
      have e0 : (zcp I k k0 0 0 x.toNatClampNeg).1 k = va_cpy (I.1 k0) (I.1 k) 0 0 x.toNatClampNeg := by
        funext b
        simp [zcp]
      rw [e0])
    rw [e] at hP2
    obtain ⟨t, b1, b2⟩ := kk _ _ ls hP2 (by rw [Array.size_setIfInBounds]; exact a2) ⟨by rw [Array.size_setIfInBounds]; exact a3.1, fun q g1 g2 => by
        rw [oq q (fun e => g2 (by show B ≤ q; omega))]
        exact a3.2.1 q g1 g2, fun q hq => by
        rcases List.mem_append.mp hq with h | h
        · exact a3.2.2 q h
        · obtain ⟨z, -, hz⟩ := List.mem_map.mp h
          rw [← hz]
          show B ≤ B + k
          omega⟩ a4 _ hheap X'
    exact ⟨t, step t b1, b2⟩
theorem zc_VpI (C : zCx p s m args meth c cc nL own ret D B cA ad) {ci k : Nat} {q : vw_C} {fs : List (Option (Option Nat))} {index maxL n : Nat} {y : MethodName} {bytes : ByteArray} {ret2 : Option FieldType} {fr fl : Nat} {As st0 : List Value} {K : Int32 → Prop} (hc : classes[ci]? = some q) (hk : S[k]? = some (.inl (ci, fs)))
    (hM : Met l y (zws y bytes maxL ret2) (zrm fr fl) (zPc D B cA ad (.ref (B + k) :: As) S I) (zQc D B cA (zpI S I K)) 0 0 (fun x => B ≤ x)) (hG : GoodIn zTb (wsV own index q.1 y (zws y bytes maxL ret2)))
    (hy : y.cls = q.1 ∧ y.cls ≠ "java/lang/invoke/MethodHandle" ∧ y.cls ≠ "java/lang/invoke/VarHandle" ∧ (parseMethodDescriptor y.desc).map (fun d => d.parameters.length) = some n) (hR : fr + 1 ≤ R.frames ∧ 8 + (maxL + 11) + fl ≤ R.locals)
    (hn : As.length = n) (hst : st0 = As.reverse ++ .ref (B + k) :: st) (hw : (st.map fun v => v.category).sum ≤ 8) (hd : decode cc pc = .ok (.invokevirtual index, 3)) (hf : cells ≤ R.cells ∧ slots ≤ R.slots)
    (kk : ∀ v, K v → zX p l e R s m args below meth c Q D B cA nL cells slots S I lv (.int v :: st) (pc + 3)) : zX p l e R s m args below meth c Q D B cA nL cells slots S I lv st0 pc :=
  zr_callV (rm := zrm fr fl) C hc hk hM hG rfl rfl hy hR hn hst hw hd hf (fun r S2 I2 hq => by
    obtain ⟨rfl, rfl, v, rfl, h⟩ := hq
    exact kk v h)
theorem zc_SpI (C : zCx p s m args meth c cc nL own ret D B cA ad) {index maxL n : Nat} {y : MethodName} {bytes : ByteArray} {ret2 : Option FieldType} {fr fl : Nat} {As st0 : List Value} {K : Int32 → Prop}
    (hM : Met l y (zws y bytes maxL ret2) (zrm fr fl) (zPc D B cA ad As S I) (zQc D B cA (zpI S I K)) 0 0 (fun x => B ≤ x)) (hG : GoodIn zTb (zws y bytes maxL ret2)) (h1 : Cond.methodLink own index y ∈ zTb) (h2 : Cond.static y ∈ zTb) (h3 : Cond.initialized y.cls ∈ zTb)
    (hy : y.cls ≠ "java/lang/invoke/MethodHandle" ∧ y.cls ≠ "java/lang/invoke/VarHandle" ∧ (parseMethodDescriptor y.desc).map (fun d => d.parameters.length) = some n) (hR : fr + 1 ≤ R.frames ∧ 8 + (maxL + 11) + fl ≤ R.locals)
    (hn : As.length = n) (hst : st0 = As.reverse ++ st) (hw : (st.map fun v => v.category).sum ≤ 8) (hd : decode cc pc = .ok (.invokestatic index, 3)) (hf : cells ≤ R.cells ∧ slots ≤ R.slots)
    (kk : ∀ v, K v → zX p l e R s m args below meth c Q D B cA nL cells slots S I lv (.int v :: st) (pc + 3)) : zX p l e R s m args below meth c Q D B cA nL cells slots S I lv st0 pc :=
  zr_callS (rm := zrm fr fl) C hM hG h1 h2 h3 rfl rfl hy hR hn hst hw hd hf (fun r S2 I2 hq => by
    obtain ⟨rfl, rfl, v, rfl, h⟩ := hq
    exact kk v h)
theorem zc_NpI (C : zCx p s m args meth c cc nL own ret D B cA ad) {index maxL n : Nat} {host : String} {y : MethodName} {bytes : ByteArray} {ret2 : Option FieldType} {fr fl : Nat} {As st0 : List Value} {K : Int32 → Prop}
    (hM : Met l y (zws y bytes maxL ret2) (zrm fr fl) (zPc D B cA ad As S I) (zQc D B cA (zpI S I K)) 0 0 (fun x => B ≤ x)) (hG : GoodIn zTb (zws y bytes maxL ret2)) (h1 : (own, index, y, host) ∈ zNsT) (h2 : Cond.static y ∈ zTb) (h3 : Cond.initialized y.cls ∈ zTb)
    (hy : y.cls ≠ "java/lang/invoke/MethodHandle" ∧ y.cls ≠ "java/lang/invoke/VarHandle" ∧ (parseMethodDescriptor y.desc).map (fun d => d.parameters.length) = some n) (hR : fr + 1 ≤ R.frames ∧ 8 + (maxL + 11) + fl ≤ R.locals)
    (hn : As.length = n) (hst : st0 = As.reverse ++ st) (hw : (st.map fun v => v.category).sum ≤ 8) (hd : decode cc pc = .ok (.invokestatic index, 3)) (hf : cells ≤ R.cells ∧ slots ≤ R.slots)
    (kk : ∀ v, K v → zX p l e R s m args below meth c Q D B cA nL cells slots S I lv (.int v :: st) (pc + 3)) : zX p l e R s m args below meth c Q D B cA nL cells slots S I lv st0 pc :=
  zr_callSN (rm := zrm fr fl) C hM hG h1 h2 h3 rfl rfl hy hR hn hst hw hd hf (fun r S2 I2 hq => by
    obtain ⟨rfl, rfl, v, rfl, h⟩ := hq
    exact kk v h)
theorem zc_VpJ (C : zCx p s m args meth c cc nL own ret D B cA ad) {ci k : Nat} {q : vw_C} {fs : List (Option (Option Nat))} {index maxL n : Nat} {y : MethodName} {bytes : ByteArray} {ret2 : Option FieldType} {fr fl : Nat} {As st0 : List Value} {K : Int64 → Prop} (hc : classes[ci]? = some q) (hk : S[k]? = some (.inl (ci, fs)))
    (hM : Met l y (zws y bytes maxL ret2) (zrm fr fl) (zPc D B cA ad (.ref (B + k) :: As) S I) (zQc D B cA (zpJ S I K)) 0 0 (fun x => B ≤ x)) (hG : GoodIn zTb (wsV own index q.1 y (zws y bytes maxL ret2)))
    (hy : y.cls = q.1 ∧ y.cls ≠ "java/lang/invoke/MethodHandle" ∧ y.cls ≠ "java/lang/invoke/VarHandle" ∧ (parseMethodDescriptor y.desc).map (fun d => d.parameters.length) = some n) (hR : fr + 1 ≤ R.frames ∧ 8 + (maxL + 11) + fl ≤ R.locals)
    (hn : As.length = n) (hst : st0 = As.reverse ++ .ref (B + k) :: st) (hw : (st.map fun v => v.category).sum ≤ 8) (hd : decode cc pc = .ok (.invokevirtual index, 3)) (hf : cells ≤ R.cells ∧ slots ≤ R.slots)
    (kk : ∀ v, K v → zX p l e R s m args below meth c Q D B cA nL cells slots S I lv (.long v :: st) (pc + 3)) : zX p l e R s m args below meth c Q D B cA nL cells slots S I lv st0 pc :=
  zr_callV (rm := zrm fr fl) C hc hk hM hG rfl rfl hy hR hn hst hw hd hf (fun r S2 I2 hq => by
    obtain ⟨rfl, rfl, v, rfl, h⟩ := hq
    exact kk v h)
theorem zc_VpR (C : zCx p s m args meth c cc nL own ret D B cA ad) {ci k : Nat} {q : vw_C} {fs : List (Option (Option Nat))} {index maxL n : Nat} {y : MethodName} {bytes : ByteArray} {ret2 : Option FieldType} {fr fl : Nat} {As st0 : List Value} {K : Nat → Prop} (hc : classes[ci]? = some q) (hk : S[k]? = some (.inl (ci, fs)))
    (hM : Met l y (zws y bytes maxL ret2) (zrm fr fl) (zPc D B cA ad (.ref (B + k) :: As) S I) (zQc D B cA (zpR B S I K)) 0 0 (fun x => B ≤ x)) (hG : GoodIn zTb (wsV own index q.1 y (zws y bytes maxL ret2)))
    (hy : y.cls = q.1 ∧ y.cls ≠ "java/lang/invoke/MethodHandle" ∧ y.cls ≠ "java/lang/invoke/VarHandle" ∧ (parseMethodDescriptor y.desc).map (fun d => d.parameters.length) = some n) (hR : fr + 1 ≤ R.frames ∧ 8 + (maxL + 11) + fl ≤ R.locals)
    (hn : As.length = n) (hst : st0 = As.reverse ++ .ref (B + k) :: st) (hw : (st.map fun v => v.category).sum ≤ 8) (hd : decode cc pc = .ok (.invokevirtual index, 3)) (hf : cells ≤ R.cells ∧ slots ≤ R.slots)
    (kk : ∀ v, zIsMoment S v → K v → zX p l e R s m args below meth c Q D B cA nL cells slots S I lv (.ref (B + v) :: st) (pc + 3)) : zX p l e R s m args below meth c Q D B cA nL cells slots S I lv st0 pc :=
  zr_callV (rm := zrm fr fl) C hc hk hM hG rfl rfl hy hR hn hst hw hd hf (fun r S2 I2 hq => by
    obtain ⟨rfl, rfl, v, rfl, h0, h⟩ := hq
    exact kk v h0 h)
theorem zc_VqI (C : zCx p s m args meth c cc nL own ret D B cA ad) {ci k : Nat} {q : vw_C} {fs : List (Option (Option Nat))} {index maxL n : Nat} {y : MethodName} {bytes : ByteArray} {ret2 : Option FieldType} {fr fl : Nat} {As st0 : List Value} {K : Int32 → zI → Prop} (hc : classes[ci]? = some q) (hk : S[k]? = some (.inl (ci, fs)))
    (hM : Met l y (zws y bytes maxL ret2) (zrm fr fl) (zPc D B cA ad (.ref (B + k) :: As) S I) (zQc D B cA (zqI S K)) 0 0 (fun x => B ≤ x)) (hG : GoodIn zTb (wsV own index q.1 y (zws y bytes maxL ret2)))
    (hy : y.cls = q.1 ∧ y.cls ≠ "java/lang/invoke/MethodHandle" ∧ y.cls ≠ "java/lang/invoke/VarHandle" ∧ (parseMethodDescriptor y.desc).map (fun d => d.parameters.length) = some n) (hR : fr + 1 ≤ R.frames ∧ 8 + (maxL + 11) + fl ≤ R.locals)
    (hn : As.length = n) (hst : st0 = As.reverse ++ .ref (B + k) :: st) (hw : (st.map fun v => v.category).sum ≤ 8) (hd : decode cc pc = .ok (.invokevirtual index, 3)) (hf : cells ≤ R.cells ∧ slots ≤ R.slots)
    (kk : ∀ v I2, K v I2 → zX p l e R s m args below meth c Q D B cA nL cells slots S I2 lv (.int v :: st) (pc + 3)) : zX p l e R s m args below meth c Q D B cA nL cells slots S I lv st0 pc :=
  zr_callV (rm := zrm fr fl) C hc hk hM hG rfl rfl hy hR hn hst hw hd hf (fun r S2 I2 hq => by
    obtain ⟨rfl, v, rfl, h⟩ := hq
    exact kk v _ h)
theorem zc_SqI (C : zCx p s m args meth c cc nL own ret D B cA ad) {index maxL n : Nat} {y : MethodName} {bytes : ByteArray} {ret2 : Option FieldType} {fr fl : Nat} {As st0 : List Value} {K : Int32 → zI → Prop}
    (hM : Met l y (zws y bytes maxL ret2) (zrm fr fl) (zPc D B cA ad As S I) (zQc D B cA (zqI S K)) 0 0 (fun x => B ≤ x)) (hG : GoodIn zTb (zws y bytes maxL ret2)) (h1 : Cond.methodLink own index y ∈ zTb) (h2 : Cond.static y ∈ zTb) (h3 : Cond.initialized y.cls ∈ zTb)
    (hy : y.cls ≠ "java/lang/invoke/MethodHandle" ∧ y.cls ≠ "java/lang/invoke/VarHandle" ∧ (parseMethodDescriptor y.desc).map (fun d => d.parameters.length) = some n) (hR : fr + 1 ≤ R.frames ∧ 8 + (maxL + 11) + fl ≤ R.locals)
    (hn : As.length = n) (hst : st0 = As.reverse ++ st) (hw : (st.map fun v => v.category).sum ≤ 8) (hd : decode cc pc = .ok (.invokestatic index, 3)) (hf : cells ≤ R.cells ∧ slots ≤ R.slots)
    (kk : ∀ v I2, K v I2 → zX p l e R s m args below meth c Q D B cA nL cells slots S I2 lv (.int v :: st) (pc + 3)) : zX p l e R s m args below meth c Q D B cA nL cells slots S I lv st0 pc :=
  zr_callS (rm := zrm fr fl) C hM hG h1 h2 h3 rfl rfl hy hR hn hst hw hd hf (fun r S2 I2 hq => by
    obtain ⟨rfl, v, rfl, h⟩ := hq
    exact kk v _ h)
theorem zc_VqV (C : zCx p s m args meth c cc nL own ret D B cA ad) {ci k : Nat} {q : vw_C} {fs : List (Option (Option Nat))} {index maxL n : Nat} {y : MethodName} {bytes : ByteArray} {ret2 : Option FieldType} {fr fl : Nat} {As st0 : List Value} {K : zI → Prop} (hc : classes[ci]? = some q) (hk : S[k]? = some (.inl (ci, fs)))
    (hM : Met l y (zws y bytes maxL ret2) (zrm fr fl) (zPc D B cA ad (.ref (B + k) :: As) S I) (zQc D B cA (zqV S K)) 0 0 (fun x => B ≤ x)) (hG : GoodIn zTb (wsV own index q.1 y (zws y bytes maxL ret2)))
    (hy : y.cls = q.1 ∧ y.cls ≠ "java/lang/invoke/MethodHandle" ∧ y.cls ≠ "java/lang/invoke/VarHandle" ∧ (parseMethodDescriptor y.desc).map (fun d => d.parameters.length) = some n) (hR : fr + 1 ≤ R.frames ∧ 8 + (maxL + 11) + fl ≤ R.locals)
    (hn : As.length = n) (hst : st0 = As.reverse ++ .ref (B + k) :: st) (hw : (st.map fun v => v.category).sum ≤ 8) (hd : decode cc pc = .ok (.invokevirtual index, 3)) (hf : cells ≤ R.cells ∧ slots ≤ R.slots)
    (kk : ∀ I2, K I2 → zX p l e R s m args below meth c Q D B cA nL cells slots S I2 lv st (pc + 3)) : zX p l e R s m args below meth c Q D B cA nL cells slots S I lv st0 pc :=
  zr_callV (rm := zrm fr fl) C hc hk hM hG rfl rfl hy hR hn hst hw hd hf (fun r S2 I2 hq => by
    obtain ⟨rfl, rfl, h⟩ := hq
    exact kk _ h)
end ZY
theorem zgM {y : MethodName} {b : ByteArray} {n : Nat} {r : Option FieldType} (h5 : Cond.code y b n r ∈ zTb) : GoodIn zTb (zws y b n r) := zgood (fun x hx => (List.mem_cons.mp hx).elim (fun q => q ▸ h5) (fun q => q))
