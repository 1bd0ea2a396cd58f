/** The boundary sentences of term 1 and the promises 7 to 11 and 23 to 28: the fewest, greedy, payings and the hand. */
public final class PayingBoundaryTest {
  private static final String MOST = "1_000_000_000_000_000";
  private static final String ABOVE = "1_000_000_000_000_001";
  // Their ways come to the limit within 3 * 10^-8 of it, from below and from above.
  private static final String BELOW_LIMIT = "mint 0: 1 2 3 4 5 8 9 10 11 12 19 21";
  private static final String ABOVE_LIMIT = "mint 1: 1 2 5 6 7 8 9 10 16 17 19 20";
  private static final String ONE_TO_TWELVE = "mint 2: 1 2 3 4 5 6 7 8 9 10 11 12";
  private static final Sentences TEST = new Sentences();

  private static void fewest() {
    TEST.sentence("promise 7", "NONE if it can't be paid.", "mint 0: 6 9 20", "mint 1: 300", "unchanged: fewest(0, 1) = NONE",
        "fewest(0, 5) = NONE", "fewest(0, 6) = 1", "fewest(0, 42) = 5", "fewest(0, 43) = NONE", "fewest(0, 44) = 4",
        "fewest(1, 299) = NONE", "fewest(1, 300) = 1", "fewest(1, 301) = NONE", "fewest(1, " + MOST + ") = NONE",
        "fewest(1, 999_999_999_999_900) = 3_333_333_333_333", "fewest(2, 1) = NONE", "fewest(2, " + MOST + ") = NONE");
    TEST.sentence("promise 7", "IllegalArgumentException: s is below 0", "mint 0: 1", "fewest(0, 0) = 0",
        "unchanged: fewest(0, -1) = Illegal", "unchanged: fewest(0, MIN) = Illegal", "unchanged: fewest(1, -1) = Illegal",
        "fewest(1, 0) = 0");
    TEST.sentence("promise 7", "or above 1,000,000,000,000,000", "mint 0: 1", "mint 1: 299 300",
        "unchanged: fewest(0, " + MOST + ") = " + MOST, "fewest(1, " + MOST + ") = 3_333_333_333_334",
        "unchanged: fewest(0, " + ABOVE + ") = Illegal", "unchanged: fewest(0, MAX) = Illegal",
        "fewest(1, " + ABOVE + ") = Illegal", "unchanged: fewest(2, " + ABOVE + ") = Illegal");
    // Up to here some sums are paid otherwise than with as many of the greatest coin as far above.
    TEST.sentence("term 1", "FEWEST of s: the least SIZE", "mint 0: 299 300", "fewest(0, 89_101) = NONE",
        "fewest(0, 89_102) = 298", "fewest(0, 89_400) = 298", "fewest(0, 89_401) = 299", "fewest(0, 89_700) = 299",
        "fewest(0, 89_701) = 300", "fewest(0, 90_000) = 300", "fewest(0, 90_001) = 301");
  }

  private static void likeOnes() {
    TEST.sentence("term 1", "of like ones that PAYING is told that has the greatest COIN most often", "mint 0: 2 3 4 5",
        "fewest(0, 7) = 2", "with(0, 7, 3) = 1", "with(0, 7, 2) = 0", "with(0, 7, 1) = 0", "with(0, 7, 0) = 1",
        "with(0, 5_000_000_007, 3) = 1_000_000_001", "with(0, 5_000_000_007, 0) = 1", "with(0, 5_000_000_007, 2) = 0");
    TEST.sentence("term 1", "then the next greatest", "mint 0: 2 3 4 5", "fewest(0, 11) = 3", "with(0, 11, 3) = 1",
        "with(0, 11, 2) = 1", "with(0, 11, 1) = 0", "with(0, 11, 0) = 1", "with(0, 6, 2) = 1", "with(0, 6, 1) = 0",
        "with(0, 6, 0) = 1", "with(0, 5_000_000_011, 3) = 1_000_000_001", "with(0, 5_000_000_011, 2) = 1",
        "with(0, 5_000_000_011, 1) = 0", "with(0, 5_000_000_011, 0) = 1");
    TEST.sentence("term 1", "and so on", "mint 0: 1 3 4 6 50 100", "fewest(0, 157) = 4", "with(0, 157, 5) = 1",
        "with(0, 157, 4) = 1", "with(0, 157, 3) = 1", "with(0, 157, 2) = 0", "with(0, 157, 1) = 0", "with(0, 157, 0) = 1",
        "with(0, 100_000_000_000_157, 5) = 1_000_000_000_001", "with(0, 100_000_000_000_157, 4) = 1",
        "with(0, 100_000_000_000_157, 3) = 1", "with(0, 100_000_000_000_157, 2) = 0",
        "with(0, 100_000_000_000_157, 1) = 0", "with(0, 100_000_000_000_157, 0) = 1");
    // Far up such rests are paid by many 299, so that small sums of them are told otherwise than great ones.
    TEST.sentence("term 1, small sums beside great coins", "then the next greatest, and so on", "mint 0: 1 2 3 4 5 6 299 300",
        "fewest(0, 11) = 2", "with(0, 11, 7) = 0", "with(0, 11, 6) = 0", "with(0, 11, 5) = 1", "with(0, 11, 4) = 1",
        "with(0, 11, 3) = 0", "with(0, 11, 0) = 0", "melt(0, 1) = true", "melt(0, 6) = true", "fewest(0, 11) = 3",
        "with(0, 11, 3) = 1", "with(0, 11, 2) = 1", "with(0, 11, 1) = 0", "with(0, 11, 0) = 1", "with(0, 11, 4) = 0",
        "with(0, 11, 5) = 0", "with(0, 15, 3) = 3", "with(0, 7, 3) = 1", "with(0, 7, 0) = 1", "with(0, 1, 0) = NONE",
        "with(0, 2, 0) = 1", "with(0, 2, 1) = 0", "mint 1: 1 299 300", "with(1, 298, 0) = 298", "with(1, 298, 1) = 0",
        "with(1, 298, 2) = 0", "with(1, 597, 0) = 297", "with(1, 597, 2) = 1", "with(1, 598, 1) = 2", "with(1, 598, 0) = 0");
    TEST.sentence("term 1, one COIN", "of like ones that PAYING is told", "mint 0: 6 9 20", "with(0, 9, 0) = 0", "with(0, 9, 1) = 1",
        "with(0, 9, 2) = 0", "with(0, 20, 0) = 0", "with(0, 20, 2) = 1", "with(0, 6, 0) = 1", "with(0, 6, 2) = 0");
    TEST.sentence("term 1, without and with the greatest", "has the greatest COIN most often", "mint 0: 299 300",
        "with(0, 598, 0) = 2", "with(0, 598, 1) = 0", "with(0, 89_401, 0) = 299", "with(0, 89_401, 1) = 0",
        "with(0, 89_700, 0) = 0", "with(0, 89_700, 1) = 299", "with(0, 89_701, 0) = 299", "with(0, 89_701, 1) = 1");
  }

  private static void with() {
    TEST.sentence("promise 8", "NONE if s can't be paid.", "mint 0: 6 9 20", "unchanged: with(0, 43, 0) = NONE",
        "with(0, 43, 1) = NONE", "with(0, 43, 2) = NONE", "with(0, 1, 0) = NONE", "with(0, 44, 0) = 1", "with(0, 44, 1) = 2",
        "with(0, 44, 2) = 1", "mint 1: 2", "with(1, 999_999_999_999_999, 0) = NONE");
    TEST.sentence("promise 8", "Exceptions likewise (s)", "mint 0: 1 300", "with(0, 0, 0) = 0",
        "with(0, " + MOST + ", 1) = 3_333_333_333_333", "unchanged: with(0, " + MOST + ", 0) = 100",
        "unchanged: with(0, -1, 0) = Illegal", "unchanged: with(0, MIN, 1) = Illegal",
        "unchanged: with(0, " + ABOVE + ", 0) = Illegal", "unchanged: with(0, MAX, 1) = Illegal");
    TEST.sentence("promise 8", "NoSuchElementException also: there is no i-th COIN.", "mint 0: 6 9", "with(0, 15, 0) = 1",
        "with(0, 15, 1) = 1", "unchanged: with(0, 15, 2) = NoSuch", "unchanged: with(0, 15, -1) = NoSuch",
        "with(0, 15, MIN) = NoSuch", "with(0, 15, MAX) = NoSuch", "with(0, 1, 2) = NoSuch", "with(0, 0, 2) = NoSuch",
        "with(1, 0, 0) = NoSuch", "with(1, 5, 0) = NoSuch", "with(1, 5, -1) = NoSuch");
  }

  private static void greedy() {
    TEST.sentence("term 1", "GREEDY: the greatest COIN that is not above what is left, again and again", "mint 0: 3 4",
        "greedy(0, 3) = 1", "greedy(0, 4) = 1", "greedy(0, 7) = 2", "greedy(0, 8) = 2", "greedy(0, 11) = 3");
    TEST.sentence("promise 9", "NONE if it doesn't pay s.", "mint 0: 3 4", "unchanged: greedy(0, 6) = NONE",
        "fewest(0, 6) = 2", "greedy(0, 1) = NONE", "greedy(0, 2) = NONE", "greedy(0, 5) = NONE", "greedy(1, 1) = NONE",
        "greedy(1, 0) = 0", "greedy(1, " + MOST + ") = NONE");
    TEST.sentence("promise 9", "Exceptions as fewest().", "mint 0: 1 300", "greedy(0, 0) = 0",
        "unchanged: greedy(0, " + MOST + ") = 3_333_333_333_433", "unchanged: greedy(0, -1) = Illegal",
        "greedy(0, MIN) = Illegal", "unchanged: greedy(0, " + ABOVE + ") = Illegal", "greedy(0, MAX) = Illegal",
        "greedy(1, -1) = Illegal", "greedy(1, " + ABOVE + ") = Illegal");
  }

  private static void failures() {
    TEST.sentence("term 1", "A FAILURE is a sum that can be paid, but GREEDY doesn't pay it with FEWEST", "mint 0: 1 3 4",
        "fails(0) = 6", "always(0) = false", "fewest(0, 6) = 2", "greedy(0, 6) = 3", "mint 1: 1 2 3", "fails(1) = -1",
        "always(1) = true");
    TEST.sentence("term 1", "(or not at all)", "mint 0: 3 4", "fails(0) = 6", "always(0) = false", "mint 1: 299 300",
        "fails(1) = 598", "always(1) = false");
    TEST.sentence("promise 10", "Whether there is no FAILURE.", "unchanged: always(0) = true", "mint 0: 300",
        "unchanged: always(0) = true", "mint 1: 2 4 300", "always(1) = true", "mint 2: 1 299 300", "always(2) = false",
        "melt(2, 1) = true", "always(2) = false", "melt(2, 299) = true", "always(2) = true");
    TEST.sentence("promise 11", "The least FAILURE", "mint 0: 1 299 300", "unchanged: fails(0) = 598",
        "mint 1: 150 299 300", "fails(1) = 449", "mint 2: 1 15 25", "fails(2) = 30", "mint 3: 6 9 20", "fails(3) = 12",
        "mint 4: 1 298 300", "fails(4) = 596");
    TEST.sentence("promise 11", "NONE without one.", "unchanged: fails(0) = NONE", "mint 0: 7", "fails(0) = NONE",
        "mint 1: 1 5 10 25", "fails(1) = NONE", "mint 2: 2 4 8", "fails(2) = NONE", "mint 3: 1", "fails(3) = NONE");
  }

  private static void ways() {
    TEST.sentence("promise 23", "How many PAYINGS of s there are", "mint 0: 1 3 4", "unchanged: ways(0, 6) = 4",
        "ways(0, 0) = 1", "ways(0, 2) = 1", "ways(0, 3) = 2", "ways(0, 3000) = 376_001", "ways(1, 0) = 1", "ways(1, 1) = 0",
        "ways(1, 3000) = 0", "mint 2: 300", "ways(2, 299) = 0", "ways(2, 300) = 1", "ways(2, 3000) = 1");
    TEST.sentence("promise 23", "-2, if more than 4,000,000,000,000,000,000.", BELOW_LIMIT, ABOVE_LIMIT,
        "ways(0, 1768) = 3_999_999_927_616_652_916", "unchanged: ways(0, 1769) = -2",
        "ways(1, 2108) = 3_979_755_001_205_197_421", "ways(1, 2109) = -2", "ways(0, 3000) = -2", "ways(1, 3000) = -2");
    // From 1562 on they are above the greatest long, from 1666 on they have wrapped around to it from below.
    TEST.sentence("promise 23, wrapped around", "-2, if more than 4,000,000,000,000,000,000.", ONE_TO_TWELVE,
        "ways(2, 1444) = 3_985_396_722_035_627_606", "ways(2, 1445) = -2", "ways(2, 1561) = -2", "ways(2, 1562) = -2",
        "ways(2, 1666) = -2", "ways(2, 1685) = -2", "ways(2, 3000) = -2");
    TEST.sentence("promise 23", "IllegalArgumentException: s is not 0 to 3000.", "mint 0: 1", "ways(0, 0) = 1",
        "unchanged: ways(0, 3000) = 1", "unchanged: ways(0, -1) = Illegal", "unchanged: ways(0, 3001) = Illegal",
        "ways(0, MIN) = Illegal", "ways(0, MAX) = Illegal", "ways(1, -1) = Illegal", "ways(1, 3001) = Illegal");
  }

  private static void of() {
    TEST.sentence("promise 24", "0 the first; ordered by how often the greatest COIN is there, most often first",
        "mint 0: 1 3 4", "of(0, 6, 0) = true", "hand(2) = 1", "hand(1) = 0", "hand(0) = 2", "rank() = 0",
        "of(0, 6, 1) = true", "hand(2) = 0", "hand(1) = 2", "hand(0) = 0", "rank() = 1", "of(0, 6, 2) = true", "hand(2) = 0",
        "hand(1) = 1", "hand(0) = 3", "rank() = 2", "of(0, 6, 3) = true", "hand(2) = 0", "hand(1) = 0", "hand(0) = 6",
        "rank() = 3", "of(0, 3000, 0) = true", "hand(2) = 750", "of(0, 3000, 376_000) = true", "hand(0) = 3000");
    TEST.sentence("promise 24", "False (HAND stays): there is none such", "unchanged: of(0, 1, 0) = false", "mint 0: 2 3",
        "unchanged: of(0, 1, 0) = false", "unchanged: of(0, 6, 2) = false", "of(0, 6, 1) = true", "hand(0) = 3",
        "unchanged: of(0, 6, 2) = false", "unchanged: of(0, 6, -1) = false", "unchanged: of(0, 6, MIN) = false",
        "unchanged: of(0, 6, MAX) = false", "unchanged: of(0, 1, 0) = false", "unchanged: of(1, 6, 0) = false",
        "unchanged: of(1, 0, 1) = false", "hand(0) = 3", "rank() = 1");
    TEST.sentence("promise 24", "or ways() is -2", BELOW_LIMIT, ABOVE_LIMIT, "unchanged: of(0, 1769, 0) = false",
        "of(0, 1768, 3_999_999_927_616_652_915) = true", "rank() = 3_999_999_927_616_652_915", "hand(0) = 1768",
        "unchanged: of(0, 1768, 3_999_999_927_616_652_916) = false", "unchanged: of(1, 2109, 0) = false",
        "unchanged: of(1, 2109, 3_999_999_999_999_999_999) = false", "unchanged: of(1, 3000, 0) = false",
        "unchanged: of(1, 3000, -2) = false");
    TEST.sentence("promise 24", "IllegalArgumentException as ways().", "mint 0: 1", "of(0, 3000, 0) = true", "hand(0) = 3000",
        "of(0, 0, 0) = true", "hand(0) = 0", "of(0, 5, 0) = true", "unchanged: of(0, -1, 0) = Illegal",
        "unchanged: of(0, 3001, 0) = Illegal", "unchanged: of(0, MIN, 0) = Illegal", "unchanged: of(0, MAX, 0) = Illegal",
        "unchanged: of(1, -1, -1) = Illegal", "unchanged: of(0, 3001, -1) = Illegal", "hand(0) = 5");
  }

  private static void hand() {
    TEST.sentence("promise 25", "NoSuchElementException: nothing lies in HAND", "unchanged: hand(0) = NoSuch",
        "unchanged: hand(-1) = NoSuch", "mint 0: 1", "hand(0) = NoSuch", "of(0, 1, 1) = false", "hand(0) = NoSuch",
        "of(0, 1, 0) = true", "hand(0) = 1");
    TEST.sentence("promise 25", "or there is none such", "mint 0: 1 3 4", "of(0, 6, 0) = true", "hand(2) = 1",
        "unchanged: hand(3) = NoSuch", "unchanged: hand(-1) = NoSuch", "hand(MIN) = NoSuch", "hand(MAX) = NoSuch",
        "coin(0, 5) = 4", "hand(3) = NoSuch", "of(1, 0, 0) = true", "hand(0) = NoSuch");
    TEST.sentence("promise 25", "of that MINT (as it was then)", "mint 0: 1 3 4", "of(0, 6, 1) = true", "coin(0, 2) = 4",
        "hand(0) = 0", "hand(1) = 2", "hand(2) = 0", "hand(3) = NoSuch", "rank() = 1", "melt(0, 1) = true",
        "melt(0, 3) = true", "melt(0, 4) = true", "melt(0, 2) = true", "hand(1) = 2", "rank() = 1", "undo() = true",
        "hand(1) = 2", "rank() = 1");
  }

  private static void put() {
    TEST.sentence("promise 26", "HAND has the i-th COIN so often: what it was.", "mint 0: 1 3 4", "of(0, 6, 0) = true",
        "put(0, 0) = 2", "put(0, 3000) = 0", "put(0, 1) = 3000", "put(2, 0) = 1", "put(1, 7) = 0", "hand(0) = 1", "hand(1) = 7",
        "hand(2) = 0");
    TEST.sentence("promise 26", "NoSuchElementException as hand().", "unchanged: put(0, 1) = NoSuch",
        "unchanged: put(-1, 1) = NoSuch", "mint 0: 1 3", "unchanged: put(0, 1) = NoSuch", "of(0, 4, 0) = true",
        "put(1, 1) = 1", "unchanged: put(2, 1) = NoSuch", "unchanged: put(-1, 1) = NoSuch", "unchanged: put(MIN, 1) = NoSuch",
        "unchanged: put(MAX, 1) = NoSuch", "of(1, 0, 0) = true", "unchanged: put(0, 1) = NoSuch");
    TEST.sentence("promise 26", "IllegalArgumentException: many is not 0 to 3000.", "mint 0: 1 300", "of(0, 300, 0) = true",
        "put(1, 3000) = 1", "put(1, 0) = 3000", "put(0, 3000) = 0", "unchanged: put(0, -1) = Illegal",
        "unchanged: put(0, 3001) = Illegal", "unchanged: put(1, MIN) = Illegal", "unchanged: put(1, MAX) = Illegal",
        "hand(0) = 3000", "hand(1) = 0");
  }

  private static void rank() {
    TEST.sentence("promise 27", "as a PAYING of its sum by the COINS with which it was told", "mint 0: 1 3 4",
        "of(0, 6, 0) = true", "put(2, 0) = 1", "unchanged: rank() = 0", "put(0, 0) = 2", "rank() = 0", "put(1, 2) = 0",
        "rank() = 1", "put(1, 1) = 2", "put(0, 3) = 0", "rank() = 2", "melt(0, 3) = true", "rank() = 2", "of(0, 0, 0) = true",
        "rank() = 0", "of(1, 0, 0) = true", "rank() = 0");
    TEST.sentence("promise 27", "NONE if its sum is above 3000", "mint 0: 1 3 4", "of(0, 3000, 376_000) = true",
        "unchanged: rank() = 376_000", "put(0, 2996) = 3000", "rank() = 374_999", "put(2, 1) = 0", "rank() = 374_999",
        "put(0, 2997) = 2996", "unchanged: rank() = NONE", "put(0, 2999) = 2997", "put(2, 0) = 1", "rank() = 375_749",
        "put(2, 3000) = 0", "rank() = NONE");
    TEST.sentence("promise 27, the greatest sum of all", "NONE if its sum is above 3000",
        "mint 0: 289 290 291 292 293 294 295 296 297 298 299 300", "of(0, 0, 0) = true", "put(0, 3000) = 0",
        "put(1, 3000) = 0", "put(2, 3000) = 0", "put(3, 3000) = 0", "put(4, 3000) = 0", "put(5, 3000) = 0", "put(6, 3000) = 0",
        "put(7, 3000) = 0", "put(8, 3000) = 0", "put(9, 3000) = 0", "put(10, 3000) = 0", "put(11, 3000) = 0", "rank() = NONE");
    TEST.sentence("promise 27", "or their ways() are -2", ONE_TO_TWELVE, "of(2, 12, 0) = true", "put(11, 0) = 1",
        "put(0, 1444) = 0", "rank() = 3_985_396_722_035_627_605", "put(0, 1445) = 1444", "unchanged: rank() = NONE",
        "put(0, 3000) = 1445", "rank() = NONE");
    TEST.sentence("promise 27", "NoSuchElementException: nothing lies in HAND.", "unchanged: rank() = NoSuch", "mint 0: 1",
        "of(0, 1, 1) = false", "unchanged: rank() = NoSuch", "of(0, 1, 0) = true", "rank() = 0", "undo() = true", "rank() = 0");
  }

  private static void apart() {
    TEST.sentence("promise 28", "differ by the greater SIZE of what is left of them without what both have", "mint 0: 1 300",
        "apart(0, 300) = 300", "apart(0, 3000) = 300", "mint 1: 4 6", "apart(1, 12) = 3", "apart(1, 100) = 3",
        "mint 2: 1 3 4", "apart(2, 4) = 3", "apart(2, 6) = 3", "apart(2, 3) = 3", "mint 3: 4 9 10", "ways(3, 18) = 2", "apart(3, 18) = 3");
    TEST.sentence("promise 28", "0 of one PAYING", "unchanged: apart(0, 0) = 0", "mint 0: 2 3", "apart(0, 0) = 0",
        "apart(0, 2) = 0", "apart(0, 5) = 0", "apart(0, 6) = 3", "mint 1: 300", "apart(1, 3000) = 0");
    TEST.sentence("promise 28", "NONE of none.", "unchanged: apart(0, 1) = NONE", "apart(0, 3000) = NONE", "mint 0: 2 3",
        "apart(0, 1) = NONE", "mint 1: 300", "apart(1, 2999) = NONE");
    TEST.sentence("promise 28", "-2: there are more than 200.", "mint 0: 1 15", "ways(0, 2999) = 200",
        "unchanged: apart(0, 2999) = 15", "ways(0, 3000) = 201", "unchanged: apart(0, 3000) = -2", "mint 1: 1 2 3",
        "ways(1, 46) = 200", "apart(1, 46) = 2", "ways(1, 47) = 208", "apart(1, 47) = -2", ONE_TO_TWELVE,
        "ways(2, 3000) = -2", "unchanged: apart(2, 3000) = -2");
    TEST.sentence("promise 28", "IllegalArgumentException as ways().", "mint 0: 300", "unchanged: apart(0, -1) = Illegal",
        "unchanged: apart(0, 3001) = Illegal", "apart(0, MIN) = Illegal", "apart(0, MAX) = Illegal", "apart(1, -1) = Illegal",
        "apart(1, 3001) = Illegal", "apart(0, 3000) = 0", "apart(0, 0) = 0");
  }

  public static void main(String[] args) {
    fewest();
    likeOnes();
    with();
    greedy();
    failures();
    ways();
    of();
    hand();
    put();
    rank();
    apart();
    TEST.end();
  }
}
