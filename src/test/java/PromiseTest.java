import java.util.NoSuchElementException;

/** Each promise by hand: ordinary inputs, the edges that the document names, and wrong inputs. */
public final class PromiseTest {
  private static final int NSE = 1;
  private static final int IAE = 2;
  private static final long THROWS_NSE = Long.MIN_VALUE + NSE;
  private static final long THROWS_IAE = Long.MIN_VALUE + IAE;
  private static final int MIN = Integer.MIN_VALUE;
  private static final int MAX = Integer.MAX_VALUE;
  private static int wrong = 0;
  private static int checked = 0;

  private interface Call {
    long make();
  }

  private static void due(int promise, String call, Call made, long want) {
    long got;
    try {
      got = made.make();
    } catch (NoSuchElementException e) {
      got = THROWS_NSE;
    } catch (IllegalArgumentException e) {
      got = e.getClass() == IllegalArgumentException.class ? THROWS_IAE : Long.MIN_VALUE + 9;
    } catch (RuntimeException e) {
      got = Long.MIN_VALUE + 10;
    }
    checked++;
    if (got != want) {
      wrong++;
      System.out.println("promise " + promise + ": " + call + " answered " + told(got) + ", due is " + told(want));
    }
  }

  private static String told(long answer) {
    if (answer == THROWS_NSE) {
      return "NoSuchElementException";
    }
    if (answer == THROWS_IAE) {
      return "IllegalArgumentException";
    }
    return answer < Long.MIN_VALUE + 20 ? "another exception" : Long.toString(answer);
  }

  private static long bit(boolean b) {
    return b ? 1 : 0;
  }

  private static MintHouse house(int[]... mints) {
    MintHouse x = new MintHouse();
    for (int m = 0; m < mints.length; m++) {
      for (int c : mints[m]) {
        x.coin(m, c);
      }
    }
    return x;
  }

  private static int[] of(int... values) {
    return values;
  }

  private static void dueCoins(int promise, MintHouse x, int mint, int... values) {
    due(promise, "at(" + mint + ", -1)", () -> x.at(mint, -1), values.length);
    for (int i = 0; i < values.length; i++) {
      int k = i;
      due(promise, "at(" + mint + ", " + i + ")", () -> x.at(mint, k), values[i]);
    }
  }

  /** Values with how many of each, as pairs. */
  private static void duePurse(int promise, MintHouse x, int purse, int... pairs) {
    int n = pairs.length / 2;
    due(promise, "has(" + purse + ", -1)", () -> x.has(purse, -1), n);
    int sum = 0;
    for (int i = 0; i < n; i++) {
      int k = i;
      due(promise, "has(" + purse + ", -3 - " + i + ")", () -> x.has(purse, -3 - k), pairs[2 * i]);
      due(promise, "has(" + purse + ", " + i + ")", () -> x.has(purse, k), pairs[2 * i + 1]);
      sum += pairs[2 * i] * pairs[2 * i + 1];
    }
    due(promise, "has(" + purse + ", -2)", () -> x.has(purse, -2), sum);
  }

  private static void newObject() {
    MintHouse x = new MintHouse();
    for (int m = 0; m < 8; m++) {
      int k = m;
      due(1, "at", () -> x.at(k, -1), 0);
      due(1, "has", () -> x.has(k, -1), 0);
      due(1, "has", () -> x.has(k, -2), 0);
    }
    due(1, "undo", () -> bit(x.undo()), 0);
    due(1, "redo", () -> bit(x.redo()), 0);
    due(1, "cases", x::cases, 0);
    due(1, "hand", () -> x.hand(0), THROWS_NSE);
    due(1, "NONE", () -> MintHouse.NONE, -1);
  }

  private static void coinMeltAt() {
    MintHouse x = new MintHouse();
    due(2, "coin(0, 300)", () -> x.coin(0, 300), 1);
    due(2, "coin(0, 1)", () -> x.coin(0, 1), 2);
    due(2, "coin(0, 7)", () -> x.coin(0, 7), 3);
    dueCoins(2, x, 0, 1, 7, 300);
    due(2, "coin(0, 7) again", () -> x.coin(0, 7), -1);
    due(2, "coin(0, 0)", () -> x.coin(0, 0), -1);
    due(2, "coin(0, -5)", () -> x.coin(0, -5), -1);
    due(2, "coin(0, 301)", () -> x.coin(0, 301), -1);
    due(2, "coin(-1, 5)", () -> x.coin(-1, 5), -1);
    due(2, "coin(8, 5)", () -> x.coin(8, 5), -1);
    due(2, "coin(7, 5)", () -> x.coin(7, 5), 1);
    for (int v = 20; v < 29; v++) {
      x.coin(0, v);
    }
    due(2, "coin(0, 100), the 13th", () -> x.coin(0, 100), -1);
    dueCoins(2, x, 0, 1, 7, 20, 21, 22, 23, 24, 25, 26, 27, 28, 300);
    due(3, "melt(0, 21)", () -> bit(x.melt(0, 21)), 1);
    due(3, "melt(0, 21) again", () -> bit(x.melt(0, 21)), 0);
    due(3, "melt(0, 1)", () -> bit(x.melt(0, 1)), 1);
    due(3, "melt(0, 300)", () -> bit(x.melt(0, 300)), 1);
    dueCoins(3, x, 0, 7, 20, 22, 23, 24, 25, 26, 27, 28);
    due(3, "melt(1, 7)", () -> bit(x.melt(1, 7)), 0);
    due(3, "melt(0, 0)", () -> bit(x.melt(0, 0)), 0);
    due(3, "melt(8, 7)", () -> bit(x.melt(8, 7)), 0);
    due(3, "melt(MIN, 7)", () -> bit(x.melt(MIN, 7)), 0);
    due(4, "at(0, 9)", () -> x.at(0, 9), THROWS_NSE);
    due(4, "at(0, -2)", () -> x.at(0, -2), THROWS_NSE);
    due(4, "at(0, MAX)", () -> x.at(0, MAX), THROWS_NSE);
    due(4, "at(8, -1)", () -> x.at(8, -1), THROWS_NSE);
    due(4, "at(-1, 0)", () -> x.at(-1, 0), THROWS_NSE);
    due(4, "at(1, 0)", () -> x.at(1, 0), THROWS_NSE);
  }

  private static void undoRedo() {
    MintHouse x = new MintHouse();
    for (int v = 1; v <= 12; v++) {
      x.coin(0, v);
    }
    for (int v = 1; v <= 11; v++) {
      x.coin(1, v);
    }
    x.coin(0, 1);
    x.melt(0, 99);
    for (int i = 0; i < 20; i++) {
      due(5, "undo " + i, () -> bit(x.undo()), 1);
    }
    due(5, "undo the 21st", () -> bit(x.undo()), 0);
    dueCoins(5, x, 0, 1, 2, 3);
    dueCoins(5, x, 1);
    for (int i = 0; i < 20; i++) {
      due(6, "redo " + i, () -> bit(x.redo()), 1);
    }
    due(6, "redo the 21st", () -> bit(x.redo()), 0);
    due(6, "at(1, -1)", () -> x.at(1, -1), 11);
    x.undo();
    x.undo();
    due(6, "a call without a new state", () -> x.coin(1, 1), -1);
    due(6, "fewest changes nothing", () -> x.fewest(1, 9), 1);
    due(6, "redo", () -> bit(x.redo()), 1);
    due(6, "at(1, -1)", () -> x.at(1, -1), 10);
    x.melt(0, 5);
    due(6, "redo after a change", () -> bit(x.redo()), 0);
    due(5, "undo", () -> bit(x.undo()), 1);
    due(5, "at(0, 4)", () -> x.at(0, 4), 5);
    due(6, "redo", () -> bit(x.redo()), 1);
    due(6, "at(0, 4)", () -> x.at(0, 4), 6);

    MintHouse y = house(of(2, 3));
    y.open(0, 0);
    y.fill(0, 2, 5);
    y.fill(0, 2, 5);
    due(4, "of", () -> bit(y.of(0, 6, 0)), 1);
    due(5, "a fill with the same is a state", () -> bit(y.undo()), 1);
    duePurse(5, y, 0, 2, 5, 3, 0);
    due(5, "undo", () -> bit(y.undo()), 1);
    duePurse(5, y, 0, 2, 0, 3, 0);
    due(5, "undo", () -> bit(y.undo()), 1);
    duePurse(5, y, 0);
    due(5, "hand stays", () -> y.hand(1), 2);
    due(6, "put is no state", () -> y.put(1, 1), 2);
    due(6, "redo", () -> bit(y.redo()), 1);
    duePurse(6, y, 0, 2, 0, 3, 0);
  }

  private static void fewestWithGreedy() {
    MintHouse x = house(of(1, 3, 4), of(6, 9, 20), of(299, 300), of(), of(4, 5, 6), of(300));
    due(7, "fewest(0, 0)", () -> x.fewest(0, 0), 0);
    due(7, "fewest(0, 6)", () -> x.fewest(0, 6), 2);
    due(7, "fewest(1, 43)", () -> x.fewest(1, 43), -1);
    due(7, "fewest(2, 89101)", () -> x.fewest(2, 89101), -1);
    due(7, "fewest(2, 89102)", () -> x.fewest(2, 89102), 298);
    due(7, "fewest(2, 299 * 299)", () -> x.fewest(2, 299 * 299), 299);
    due(7, "fewest(2, 299 * 300)", () -> x.fewest(2, 299 * 300), 299);
    due(7, "fewest(2, 10^15)", () -> x.fewest(2, 1_000_000_000_000_000L), 3_333_333_333_334L);
    due(7, "fewest(5, 10^15)", () -> x.fewest(5, 1_000_000_000_000_000L), -1);
    due(7, "fewest(5, 9 * 10^14)", () -> x.fewest(5, 900_000_000_000_000L), 3_000_000_000_000L);
    due(7, "fewest(3, 0)", () -> x.fewest(3, 0), 0);
    due(7, "fewest(3, 10^15)", () -> x.fewest(3, 1_000_000_000_000_000L), -1);
    due(7, "fewest(0, -1)", () -> x.fewest(0, -1), THROWS_IAE);
    due(7, "fewest(0, 10^15 + 1)", () -> x.fewest(0, 1_000_000_000_000_001L), THROWS_IAE);
    due(7, "fewest(0, MIN)", () -> x.fewest(0, Long.MIN_VALUE), THROWS_IAE);
    due(7, "fewest(8, 1)", () -> x.fewest(8, 1), THROWS_NSE);
    due(7, "fewest(-1, -1)", () -> x.fewest(-1, -1), THROWS_NSE);
    due(8, "with(4, 10, 2)", () -> x.with(4, 10, 2), 1);
    due(8, "with(4, 10, 1)", () -> x.with(4, 10, 1), 0);
    due(8, "with(4, 10, 0)", () -> x.with(4, 10, 0), 1);
    due(8, "with(2, 299 * 299, 0)", () -> x.with(2, 299 * 299, 0), 299);
    due(8, "with(2, 299 * 300, 0)", () -> x.with(2, 299 * 300, 0), 0);
    due(8, "with(2, 299 * 300, 1)", () -> x.with(2, 299 * 300, 1), 299);
    due(8, "with(4, 10^15, 2)", () -> x.with(4, 1_000_000_000_000_000L, 2), 166_666_666_666_666L);
    due(8, "with(4, 10^15, 0)", () -> x.with(4, 1_000_000_000_000_000L, 0), 1);
    due(8, "with(1, 43, 1)", () -> x.with(1, 43, 1), -1);
    due(8, "with(1, 0, 1)", () -> x.with(1, 0, 1), 0);
    due(8, "with(1, 43, 3)", () -> x.with(1, 43, 3), THROWS_NSE);
    due(8, "with(1, 43, -1)", () -> x.with(1, 43, -1), THROWS_NSE);
    due(8, "with(3, 0, 0)", () -> x.with(3, 0, 0), THROWS_NSE);
    due(8, "with(1, -1, 0)", () -> x.with(1, -1, 0), THROWS_IAE);
    due(8, "with(1, 10^15 + 1, 0)", () -> x.with(1, 1_000_000_000_000_001L, 0), THROWS_IAE);
    due(8, "with(9, 5, 0)", () -> x.with(9, 5, 0), THROWS_NSE);
    due(9, "greedy(0, 6)", () -> x.greedy(0, 6), 3);
    due(9, "greedy(1, 12)", () -> x.greedy(1, 12), -1);
    due(9, "greedy(1, 15)", () -> x.greedy(1, 15), 2);
    due(9, "greedy(3, 0)", () -> x.greedy(3, 0), 0);
    due(9, "greedy(3, 1)", () -> x.greedy(3, 1), -1);
    due(9, "greedy(0, 10^15)", () -> x.greedy(0, 1_000_000_000_000_000L), 250_000_000_000_000L);
    due(9, "greedy(0, -1)", () -> x.greedy(0, -1), THROWS_IAE);
    due(9, "greedy(0, 10^15 + 1)", () -> x.greedy(0, 1_000_000_000_000_001L), THROWS_IAE);
    due(9, "greedy(8, 1)", () -> x.greedy(8, 1), THROWS_NSE);
  }

  private static void failures() {
    MintHouse x = house(of(1, 3, 4), of(1, 5, 10, 25), of(6, 9, 20), of(), of(7), of(1, 299, 300), of(150, 299, 300));
    due(10, "always(0)", () -> bit(x.always(0)), 0);
    due(10, "always(1)", () -> bit(x.always(1)), 1);
    due(10, "always(2)", () -> bit(x.always(2)), 0);
    due(10, "always(3)", () -> bit(x.always(3)), 1);
    due(10, "always(4)", () -> bit(x.always(4)), 1);
    due(10, "always(8)", () -> bit(x.always(8)), THROWS_NSE);
    due(11, "fails(0)", () -> x.fails(0), 6);
    due(11, "fails(1)", () -> x.fails(1), -1);
    due(11, "fails(2)", () -> x.fails(2), 12);
    due(11, "fails(3)", () -> x.fails(3), -1);
    due(11, "fails(4)", () -> x.fails(4), -1);
    due(11, "fails(5)", () -> x.fails(5), 598);
    due(11, "fails(6)", () -> x.fails(6), 449);
    due(11, "fails(-1)", () -> x.fails(-1), THROWS_NSE);
  }

  private static void gaps() {
    MintHouse x = house(of(6, 9, 20), of(299, 300), of(4, 6), of(), of(1, 5), of(300), of(3, 5), of(3, 4, 5));
    due(12, "divisor(0)", () -> x.divisor(0), 1);
    due(12, "divisor(2)", () -> x.divisor(2), 2);
    due(12, "divisor(3)", () -> x.divisor(3), 0);
    due(12, "divisor(5)", () -> x.divisor(5), 300);
    due(12, "divisor(8)", () -> x.divisor(8), THROWS_NSE);
    due(13, "many(0)", () -> x.many(0), 22);
    due(13, "many(1)", () -> x.many(1), 44551);
    due(13, "many(2)", () -> x.many(2), -1);
    due(13, "many(3)", () -> x.many(3), -1);
    due(13, "many(4)", () -> x.many(4), 0);
    due(13, "many(-1)", () -> x.many(-1), THROWS_NSE);
    due(14, "last(0)", () -> x.last(0), 43);
    due(14, "last(1)", () -> x.last(1), 89101);
    due(14, "last(2)", () -> x.last(2), -2);
    due(14, "last(3)", () -> x.last(3), -2);
    due(14, "last(4)", () -> x.last(4), -1);
    due(14, "last(8)", () -> x.last(8), THROWS_NSE);
    due(15, "gap(0, 0)", () -> x.gap(0, 0), 1);
    due(15, "gap(0, 21)", () -> x.gap(0, 21), 43);
    due(15, "gap(0, 22)", () -> x.gap(0, 22), -1);
    due(15, "gap(1, 44550)", () -> x.gap(1, 44550), 89101);
    due(15, "gap(1, 44551)", () -> x.gap(1, 44551), -1);
    due(15, "gap(2, 0)", () -> x.gap(2, 0), 1);
    due(15, "gap(2, 1)", () -> x.gap(2, 1), 2);
    due(15, "gap(2, 2)", () -> x.gap(2, 2), 3);
    due(15, "gap(2, 1000000)", () -> x.gap(2, 1_000_000), 1_999_999);
    due(15, "gap(3, 1000000)", () -> x.gap(3, 1_000_000), 1_000_001);
    due(15, "gap(4, 0)", () -> x.gap(4, 0), -1);
    due(15, "gap(5, 298)", () -> x.gap(5, 298), 299);
    due(15, "gap(5, 299)", () -> x.gap(5, 299), 301);
    due(15, "gap(5, 1000000)", () -> x.gap(5, 1_000_000), 1_003_345);
    due(15, "gap(0, -1)", () -> x.gap(0, -1), THROWS_IAE);
    due(15, "gap(0, 1000001)", () -> x.gap(0, 1_000_001), THROWS_IAE);
    due(15, "gap(3, MAX)", () -> x.gap(3, MAX), THROWS_IAE);
    due(15, "gap(8, -1)", () -> x.gap(8, -1), THROWS_NSE);
    due(16, "rest(0, 0)", () -> x.rest(0, 0), 0);
    due(16, "rest(0, 1)", () -> x.rest(0, 1), 49);
    due(16, "rest(2, 1)", () -> x.rest(2, 1), -1);
    due(16, "rest(2, 2)", () -> x.rest(2, 2), 6);
    due(16, "rest(1, 298)", () -> x.rest(1, 298), 89400);
    due(16, "rest(0, 6)", () -> x.rest(0, 6), THROWS_IAE);
    due(16, "rest(0, -1)", () -> x.rest(0, -1), THROWS_IAE);
    due(16, "rest(3, 0)", () -> x.rest(3, 0), THROWS_IAE);
    due(16, "rest(9, 0)", () -> x.rest(9, 0), THROWS_NSE);
    due(17, "mirror(0)", () -> bit(x.mirror(0)), 1);
    due(17, "mirror(1)", () -> bit(x.mirror(1)), 1);
    due(17, "mirror(2)", () -> bit(x.mirror(2)), 0);
    due(17, "mirror(3)", () -> bit(x.mirror(3)), 0);
    due(17, "mirror(4)", () -> bit(x.mirror(4)), 0);
    due(17, "mirror(6)", () -> bit(x.mirror(6)), 1);
    due(17, "mirror(7)", () -> bit(x.mirror(7)), 0);
    due(17, "mirror(8)", () -> bit(x.mirror(8)), THROWS_NSE);
  }

  private static void mintsOfMints() {
    MintHouse x = house(of(6, 9, 15, 20), of(6, 9, 20), of(), of(4), of(6), of(299), of(300));
    due(18, "needed(0)", () -> x.needed(0), 11);
    due(18, "needed(2)", () -> x.needed(2), 0);
    due(18, "needed(8)", () -> x.needed(8), THROWS_NSE);
    due(19, "same(0, 1)", () -> bit(x.same(0, 1)), 1);
    due(19, "same(0, 0)", () -> bit(x.same(0, 0)), 1);
    due(19, "same(0, 3)", () -> bit(x.same(0, 3)), 0);
    due(19, "same(2, 7)", () -> bit(x.same(2, 7)), 1);
    due(19, "same(2, 3)", () -> bit(x.same(2, 3)), 0);
    due(19, "same(0, 8)", () -> bit(x.same(0, 8)), THROWS_NSE);
    due(19, "same(-1, 0)", () -> bit(x.same(-1, 0)), THROWS_NSE);
    due(20, "join(3, 4, 7)", () -> x.join(3, 4, 7), 2);
    dueCoins(20, x, 7, 4, 6);
    due(20, "join(0, 2, 0)", () -> x.join(0, 2, 0), 3);
    dueCoins(20, x, 0, 6, 9, 20);
    due(20, "undo", () -> bit(x.undo()), 1);
    dueCoins(20, x, 0, 6, 9, 15, 20);
    due(20, "join(2, 2, 7)", () -> x.join(2, 2, 7), 0);
    dueCoins(20, x, 7);
    due(20, "join(8, 0, 0)", () -> x.join(8, 0, 0), THROWS_NSE);
    due(20, "join(0, 8, 0)", () -> x.join(0, 8, 0), THROWS_NSE);
    due(20, "join(0, 0, 8)", () -> x.join(0, 0, 8), THROWS_NSE);
    due(21, "part(3, 4, 7)", () -> x.part(3, 4, 7), 1);
    dueCoins(21, x, 7, 12);
    due(21, "part(5, 6, 7)", () -> x.part(5, 6, 7), -1);
    dueCoins(21, x, 7, 12);
    due(21, "part(2, 0, 7)", () -> x.part(2, 0, 7), 0);
    dueCoins(21, x, 7);
    due(21, "part(0, 1, 0)", () -> x.part(0, 1, 0), 3);
    dueCoins(21, x, 0, 6, 9, 20);
    due(21, "part(0, 1, 8)", () -> x.part(0, 1, 8), THROWS_NSE);
    due(21, "part(0, -1, 0)", () -> x.part(0, -1, 0), THROWS_NSE);
    due(21, "part(MIN, 1, 0)", () -> x.part(MIN, 1, 0), THROWS_NSE);
    due(22, "factor(1, 1, 7)", () -> x.factor(1, 1, 7), 3);
    dueCoins(22, x, 7, 6, 9, 20);
    due(22, "factor(1, 3, 1)", () -> x.factor(1, 3, 1), 2);
    dueCoins(22, x, 1, 2, 3);
    due(22, "factor(2, 300, 7)", () -> x.factor(2, 300, 7), 0);
    due(22, "factor(5, 299, 7)", () -> x.factor(5, 299, 7), 1);
    dueCoins(22, x, 7, 1);
    due(22, "factor(1, 0, 7)", () -> x.factor(1, 0, 7), THROWS_IAE);
    due(22, "factor(1, 301, 7)", () -> x.factor(1, 301, 7), THROWS_IAE);
    due(22, "factor(8, 1, 7)", () -> x.factor(8, 1, 7), THROWS_NSE);
    due(22, "factor(1, 0, 8)", () -> x.factor(1, 0, 8), THROWS_NSE);
  }

  private static void mintsTooBig() {
    int[] low = new int[12];
    int[] high = new int[12];
    for (int i = 0; i < 12; i++) {
      low[i] = 100 + i;
      high[i] = 112 + i;
    }
    MintHouse x = house(low, high, of(13, 14), of(21, 22, 25), of(100, 101));
    due(20, "join of 24 needed", () -> x.join(0, 1, 5), -1);
    dueCoins(20, x, 5);
    due(20, "nothing has changed", () -> x.coin(5, 9), 1);
    due(20, "undo", () -> bit(x.undo()), 1);
    due(20, "the state ahead of it", () -> x.at(4, -1), 2);
    due(21, "part of a mint and its like", () -> x.part(0, 0, 5), 12);
    due(21, "part with a coin above 300", () -> x.part(2, 3, 6), -1);
    dueCoins(21, x, 6);
    due(22, "factor that needs more than 12", () -> x.factor(4, 37, 6), factorCount(new int[] {100, 101}, 37));
  }

  private static long factorCount(int[] coins, int d) {
    boolean[] paid = new boolean[300 * d + 1];
    paid[0] = true;
    for (int s = 1; s < paid.length; s++) {
      for (int c : coins) {
        paid[s] |= s >= c && paid[s - c];
      }
    }
    int count = 0;
    for (int s = 1; s <= 300; s++) {
      boolean split = false;
      for (int t = 1; t < s; t++) {
        split |= paid[d * t] && paid[d * (s - t)];
      }
      count += paid[d * s] && !split ? 1 : 0;
    }
    return count > 12 ? -1 : count;
  }

  private static void waysAndHand() {
    MintHouse x = house(of(1, 3, 4), of(), of(1, 2, 3, 4, 5, 6, 7, 8, 9, 10, 11, 12), of(2), of(1));
    due(23, "ways(0, 10)", () -> x.ways(0, 10), 8);
    due(23, "ways(0, 0)", () -> x.ways(0, 0), 1);
    due(23, "ways(1, 0)", () -> x.ways(1, 0), 1);
    due(23, "ways(1, 1)", () -> x.ways(1, 1), 0);
    due(23, "ways(3, 2999)", () -> x.ways(3, 2999), 0);
    due(23, "ways(3, 3000)", () -> x.ways(3, 3000), 1);
    due(23, "ways(2, 3000)", () -> x.ways(2, 3000), -2);
    due(23, "ways(0, 3001)", () -> x.ways(0, 3001), THROWS_IAE);
    due(23, "ways(0, -1)", () -> x.ways(0, -1), THROWS_IAE);
    due(23, "ways(8, 3001)", () -> x.ways(8, 3001), THROWS_NSE);
    due(25, "hand(0) of nothing", () -> x.hand(0), THROWS_NSE);
    due(26, "put(0, 1) of nothing", () -> x.put(0, 1), THROWS_NSE);
    due(26, "put(0, -1) of nothing", () -> x.put(0, -1), THROWS_NSE);
    due(27, "rank() of nothing", x::rank, THROWS_NSE);
    due(24, "of(1, 1, 0)", () -> bit(x.of(1, 1, 0)), 0);
    due(27, "rank() still of nothing", x::rank, THROWS_NSE);
    due(24, "of(1, 0, 0)", () -> bit(x.of(1, 0, 0)), 1);
    due(25, "hand(0) of no coin", () -> x.hand(0), THROWS_NSE);
    due(27, "rank() of the empty paying", x::rank, 0);
    due(24, "of(0, 10, 1)", () -> bit(x.of(0, 10, 1)), 1);
    due(25, "hand(2)", () -> x.hand(2), 1);
    due(25, "hand(1)", () -> x.hand(1), 2);
    due(25, "hand(0)", () -> x.hand(0), 0);
    due(24, "of(0, 10, 8)", () -> bit(x.of(0, 10, 8)), 0);
    due(24, "of(0, 10, -1)", () -> bit(x.of(0, 10, -1)), 0);
    due(24, "of(2, 3000, 0)", () -> bit(x.of(2, 3000, 0)), 0);
    due(24, "of(0, 3001, 0)", () -> bit(x.of(0, 3001, 0)), THROWS_IAE);
    due(24, "of(0, -1, 0)", () -> bit(x.of(0, -1, 0)), THROWS_IAE);
    due(24, "of(8, 0, 0)", () -> bit(x.of(8, 0, 0)), THROWS_NSE);
    due(25, "hand stays", () -> x.hand(1), 2);
    due(25, "hand(3)", () -> x.hand(3), THROWS_NSE);
    due(25, "hand(-1)", () -> x.hand(-1), THROWS_NSE);
    x.melt(0, 3);
    due(25, "hand has the coins as they were", () -> x.hand(1), 2);
    due(27, "rank by the coins as they were", x::rank, 1);
    due(26, "put(1, 0)", () -> x.put(1, 0), 2);
    due(26, "put(0, 6)", () -> x.put(0, 6), 0);
    due(27, "rank()", x::rank, 3);
    due(26, "put(0, 3001)", () -> x.put(0, 3001), THROWS_IAE);
    due(26, "put(0, -1)", () -> x.put(0, -1), THROWS_IAE);
    due(26, "put(3, 3001)", () -> x.put(3, 3001), THROWS_NSE);
    due(26, "put(0, 2996)", () -> x.put(0, 2996), 6);
    due(27, "rank() of 3000", x::rank, rankOf3000());
    due(26, "put(0, 2997)", () -> x.put(0, 2997), 2996);
    due(27, "rank() above 3000", x::rank, -1);
    due(26, "put(2, 3000)", () -> x.put(2, 3000), 1);
    due(25, "hand(2)", () -> x.hand(2), 3000);
    due(24, "of(2, 12, 0)", () -> bit(x.of(2, 12, 0)), 1);
    due(26, "put(0, 2988)", () -> x.put(0, 2988), 0);
    due(27, "rank() where ways are -2", x::rank, -1);
  }

  /** Of 3000 by 1, 3 and 4: the payings ahead of one 4 and 2996 ones. */
  private static long rankOf3000() {
    long ahead = 0;
    for (int fours = 750; fours >= 1; fours--) {
      for (int threes = (3000 - 4 * fours) / 3; threes >= 0; threes--) {
        ahead += fours > 1 || threes > 0 ? 1 : 0;
      }
    }
    return ahead;
  }

  private static void aparts() {
    MintHouse x = house(of(1, 3, 4), of(2), of(1, 15), of(1, 300), of(1, 2, 3, 4, 5, 6, 7, 8, 9, 10, 11, 12), of(6, 9, 20));
    due(28, "apart(0, 6)", () -> x.apart(0, 6), 3);
    due(28, "apart(0, 0)", () -> x.apart(0, 0), 0);
    due(28, "apart(0, 4)", () -> x.apart(0, 4), 3);
    due(28, "apart(1, 7)", () -> x.apart(1, 7), -1);
    due(28, "apart(1, 8)", () -> x.apart(1, 8), 0);
    due(28, "apart(2, 2999), of 200", () -> x.apart(2, 2999), 15);
    due(28, "apart(2, 3000), of 201", () -> x.apart(2, 3000), -2);
    due(28, "apart(3, 3000)", () -> x.apart(3, 3000), 300);
    due(28, "apart(4, 3000)", () -> x.apart(4, 3000), -2);
    due(28, "apart(5, 60)", () -> x.apart(5, 60), 7);
    due(28, "apart(7, 0)", () -> x.apart(7, 0), 0);
    due(28, "apart(7, 1)", () -> x.apart(7, 1), -1);
    due(28, "apart(0, 3001)", () -> x.apart(0, 3001), THROWS_IAE);
    due(28, "apart(0, -1)", () -> x.apart(0, -1), THROWS_IAE);
    due(28, "apart(8, 0)", () -> x.apart(8, 0), THROWS_NSE);
  }

  private static void stampsAndSpan() {
    MintHouse x = house(of(1, 3, 4), of(2, 3), of(), of(1, 300), of(1, 299, 300));
    due(29, "stamps(0, 2)", () -> x.stamps(0, 2), 8);
    due(29, "stamps(0, 1)", () -> x.stamps(0, 1), 1);
    due(29, "stamps(0, 50)", () -> x.stamps(0, 50), 200);
    due(29, "stamps(1, 50)", () -> x.stamps(1, 50), 0);
    due(29, "stamps(2, 5)", () -> x.stamps(2, 5), 0);
    due(29, "stamps(3, 50)", () -> x.stamps(3, 50), 50);
    due(29, "stamps(0, 0)", () -> x.stamps(0, 0), THROWS_IAE);
    due(29, "stamps(0, 51)", () -> x.stamps(0, 51), THROWS_IAE);
    due(29, "stamps(8, 51)", () -> x.stamps(8, 51), THROWS_NSE);
    due(30, "span(0, 1, 6)", () -> x.span(0, 1, 6), 9);
    due(30, "span(0, 6, 6)", () -> x.span(0, 6, 6), 2);
    due(30, "span(1, 0, 3)", () -> x.span(1, 0, 3), -1);
    due(30, "span(1, 2, 4)", () -> x.span(1, 2, 4), 4);
    due(30, "span(2, 0, 0)", () -> x.span(2, 0, 0), 0);
    due(30, "span(2, 0, 1)", () -> x.span(2, 0, 1), -1);
    due(30, "span(2, 1, 1)", () -> x.span(2, 1, 1), -1);
    due(30, "span(4, 0, 100000)", () -> x.span(4, 0, 100_000), allSizes(of(1, 299, 300), 100_000));
    due(30, "span(0, 3, 2)", () -> x.span(0, 3, 2), THROWS_IAE);
    due(30, "span(0, -1, 2)", () -> x.span(0, -1, 2), THROWS_IAE);
    due(30, "span(0, 1, 100001)", () -> x.span(0, 1, 100_001), THROWS_IAE);
    due(30, "span(0, MIN, MAX)", () -> x.span(0, MIN, MAX), THROWS_IAE);
    due(30, "span(8, 3, 2)", () -> x.span(8, 3, 2), THROWS_NSE);
  }

  private static long allSizes(int[] coins, int to) {
    int[] size = new int[to + 1];
    long all = 0;
    for (int s = 1; s <= to; s++) {
      size[s] = MAX;
      for (int c : coins) {
        size[s] = s >= c ? Math.min(size[s], size[s - c] + 1) : size[s];
      }
      all += size[s];
    }
    return all;
  }

  private static void searches() {
    MintHouse x = new MintHouse();
    due(32, "cases() without best()", x::cases, 0);
    due(31, "best(3, 2, 5)", () -> x.best(3, 2, 5), 8);
    dueCoins(31, x, 5, 1, 3, 4);
    due(32, "cases()", x::cases, 8);
    due(31, "best(2, 2, 5), the first of like ones", () -> x.best(2, 2, 5), 4);
    dueCoins(31, x, 5, 1, 2);
    due(32, "cases()", x::cases, 3);
    due(31, "undo", () -> bit(x.undo()), 1);
    dueCoins(31, x, 5, 1, 3, 4);
    due(32, "cases() are no state", x::cases, 3);
    due(31, "best(1, 12, 0)", () -> x.best(1, 12, 0), 12);
    dueCoins(31, x, 0, 1);
    due(31, "best(6, 1, 1)", () -> x.best(6, 1, 1), 6);
    dueCoins(31, x, 1, 1, 2, 3, 4, 5, 6);
    due(32, "cases()", x::cases, 6);
    due(31, "best(2, 12, 1)", () -> x.best(2, 12, 1), 54);
    dueCoins(31, x, 1, 1, 7);
    due(31, "best(3, 5, 1)", () -> x.best(3, 5, 1), 35);
    dueCoins(31, x, 1, 1, 6, 7);
    due(31, "best(6, 12, 1)", () -> x.best(6, 12, 1), -2);
    due(32, "cases() of too many", x::cases, 2000);
    dueCoins(31, x, 1, 1, 6, 7);
    due(31, "best(0, 1, 0)", () -> x.best(0, 1, 0), THROWS_IAE);
    due(31, "best(7, 1, 0)", () -> x.best(7, 1, 0), THROWS_IAE);
    due(31, "best(1, 0, 0)", () -> x.best(1, 0, 0), THROWS_IAE);
    due(31, "best(1, 13, 0)", () -> x.best(1, 13, 0), THROWS_IAE);
    due(31, "best(1, 1, 8)", () -> x.best(1, 1, 8), THROWS_NSE);
    due(31, "best(0, 0, -1)", () -> x.best(0, 0, -1), THROWS_NSE);
    due(32, "cases() stay", x::cases, 2000);
  }

  private static void purses() {
    MintHouse x = house(of(1, 3, 4), of(90, 200, 300), of());
    due(33, "open(0, 0)", () -> { x.open(0, 0); return 7; }, 7);
    duePurse(33, x, 0, 1, 0, 3, 0, 4, 0);
    due(33, "open(8, 0)", () -> { x.open(8, 0); return 7; }, THROWS_NSE);
    due(33, "open(0, 8)", () -> { x.open(0, 8); return 7; }, THROWS_NSE);
    due(33, "open(-1, -1)", () -> { x.open(-1, -1); return 7; }, THROWS_NSE);
    due(34, "fill(0, 1, 2)", () -> x.fill(0, 1, 2), 0);
    due(34, "fill(0, 3, 1)", () -> x.fill(0, 3, 1), 0);
    due(34, "fill(0, 4, 20)", () -> x.fill(0, 4, 20), 0);
    due(34, "fill(0, 4, 1)", () -> x.fill(0, 4, 1), 20);
    due(34, "fill(0, 5, 1)", () -> x.fill(0, 5, 1), -1);
    due(34, "fill(0, 4, 21)", () -> x.fill(0, 4, 21), -1);
    due(34, "fill(0, 4, -1)", () -> x.fill(0, 4, -1), -1);
    due(34, "fill(0, 0, 0)", () -> x.fill(0, 0, 0), -1);
    due(34, "fill(8, 4, 1)", () -> x.fill(8, 4, 1), THROWS_NSE);
    due(34, "fill(1, 4, 1)", () -> x.fill(1, 4, 1), -1);
    duePurse(34, x, 0, 1, 2, 3, 1, 4, 1);
    x.melt(0, 3);
    duePurse(33, x, 0, 1, 2, 3, 1, 4, 1);
    due(35, "has(0, 3)", () -> x.has(0, 3), THROWS_NSE);
    due(35, "has(0, -6)", () -> x.has(0, -6), THROWS_NSE);
    due(35, "has(0, MIN)", () -> x.has(0, MIN), THROWS_NSE);
    due(35, "has(0, MAX)", () -> x.has(0, MAX), THROWS_NSE);
    due(35, "has(8, -1)", () -> x.has(8, -1), THROWS_NSE);
    due(36, "pays(0, 6)", () -> x.pays(0, 6), 3);
    due(36, "pays(0, 8)", () -> x.pays(0, 8), 3);
    due(36, "pays(0, 9)", () -> x.pays(0, 9), 4);
    due(36, "pays(0, 10)", () -> x.pays(0, 10), -1);
    due(36, "pays(0, -1)", () -> x.pays(0, -1), -1);
    due(36, "pays(0, MAX)", () -> x.pays(0, MAX), -1);
    due(36, "pays(0, 0)", () -> x.pays(0, 0), 0);
    due(36, "pays(8, 0)", () -> x.pays(8, 0), THROWS_NSE);
    due(37, "holes(0)", () -> x.holes(0), 0);
    due(37, "holes(7)", () -> x.holes(7), 0);
    due(37, "holes(-1)", () -> x.holes(-1), THROWS_NSE);
    x.open(1, 1);
    x.coin(1, 299);
    x.open(2, 1);
    x.fill(2, 299, 20);
    x.fill(2, 300, 20);
    x.fill(2, 200, 20);
    due(35, "has(2, -2)", () -> x.has(2, -2), 15980);
    due(34, "fill(2, 90, 20)", () -> x.fill(2, 90, 20), 0);
    due(34, "20,000 and less", () -> x.has(2, -2), 17780);
    due(37, "holes(1)", () -> x.holes(1), 0);
    x.fill(1, 90, 2);
    due(37, "holes(1) of two 90", () -> x.holes(1), 178);
    due(36, "pays(2, 17780)", () -> x.pays(2, 17780), 80);
    due(36, "pays(2, 599)", () -> x.pays(2, 599), 2);
  }

  private static void purseLimits() {
    MintHouse x = house(of(20, 100, 200, 300, 290, 280, 110));
    x.open(0, 0);
    for (int v : new int[] {300, 290, 280, 110}) {
      x.fill(0, v, 20);
    }
    due(34, "19,600", () -> x.has(0, -2), 19600);
    due(34, "fill(0, 200, 3)", () -> x.fill(0, 200, 3), -1);
    due(34, "fill(0, 200, 2), 20,000 just", () -> x.fill(0, 200, 2), 0);
    due(34, "fill(0, 20, 1)", () -> x.fill(0, 20, 1), -1);
    due(34, "fill(0, 200, 1)", () -> x.fill(0, 200, 1), 2);
    due(36, "pays all", () -> x.pays(0, 19800), 81);
    due(36, "pays one less", () -> x.pays(0, 19799), -1);
    x.open(1, 0);
    x.fill(1, 300, 1);
    due(38, "change to a purse that is almost full", () -> x.change(1, 0, 300), 1);
    due(39, "deal above 20,000 in all, and 20 of one", () -> x.deal(1, 0, 300), -2);
    x.fill(1, 300, 0);
    x.fill(1, 200, 2);
    due(39, "deal above 20,000 in all", () -> x.deal(1, 0, 400), -2);
    duePurse(39, x, 1, 20, 0, 100, 0, 110, 0, 200, 2, 280, 0, 290, 0, 300, 0);
    due(39, "deal to 20,000 just", () -> x.deal(1, 0, 200), 1);
    due(39, "has(0, -2)", () -> x.has(0, -2), 20000);
    due(39, "deal(0, 1, 10)", () -> x.deal(0, 1, 10), -1);
    due(39, "deal(0, 1, 90) with change", () -> x.deal(0, 1, 90), 2);
    duePurse(39, x, 1, 20, 0, 100, 0, 110, 0, 200, 0, 280, 0, 290, 1, 300, 0);
  }

  private static void changes() {
    MintHouse x = house(of(1, 3, 4), of(1, 5, 10, 25), of(2, 3, 4, 5));
    x.open(0, 0);
    x.fill(0, 1, 2);
    x.fill(0, 3, 1);
    x.fill(0, 4, 1);
    x.open(1, 1);
    x.fill(1, 10, 1);
    due(38, "change(1, 0, 6)", () -> x.change(1, 0, 6), 2);
    due(38, "change(1, 0, 0)", () -> x.change(1, 0, 0), 0);
    due(38, "change(1, 0, 11)", () -> x.change(1, 0, 11), -1);
    due(38, "change(1, 0, MAX)", () -> x.change(1, 0, MAX), -1);
    due(38, "change(6, 7, 0)", () -> x.change(6, 7, 0), 0);
    due(38, "change(6, 0, 1)", () -> x.change(6, 0, 1), -1);
    due(38, "change(1, 1, 6)", () -> x.change(1, 1, 6), THROWS_IAE);
    due(38, "change(1, 0, -1)", () -> x.change(1, 0, -1), THROWS_IAE);
    due(38, "change(1, 0, MIN)", () -> x.change(1, 0, MIN), THROWS_IAE);
    due(38, "change(8, 0, -1)", () -> x.change(8, 0, -1), THROWS_NSE);
    due(38, "change(8, 8, 1)", () -> x.change(8, 8, 1), THROWS_NSE);
    due(39, "deal(1, 0, 11)", () -> x.deal(1, 0, 11), -1);
    due(39, "deal(0, 0, 1)", () -> x.deal(0, 0, 1), THROWS_IAE);
    due(39, "deal(0, 1, -1)", () -> x.deal(0, 1, -1), THROWS_IAE);
    due(39, "deal(0, 8, 1)", () -> x.deal(0, 8, 1), THROWS_NSE);
    due(39, "deal(-1, -1, -1)", () -> x.deal(-1, -1, -1), THROWS_NSE);
    due(39, "deal(1, 0, 6)", () -> x.deal(1, 0, 6), 2);
    duePurse(39, x, 0, 1, 2, 3, 1, 4, 0, 10, 1);
    duePurse(39, x, 1, 1, 0, 4, 1, 5, 0, 10, 0, 25, 0);
    due(39, "undo", () -> bit(x.undo()), 1);
    duePurse(39, x, 0, 1, 2, 3, 1, 4, 1);
    duePurse(39, x, 1, 1, 0, 5, 0, 10, 1, 25, 0);
    due(39, "deal(1, 0, 0)", () -> x.deal(1, 0, 0), 0);
    due(39, "a deal of 0 is a state", () -> bit(x.redo()), 0);

    x.open(2, 2);
    for (int v = 2; v <= 5; v++) {
      x.fill(2, v, 2);
    }
    due(39, "deal(2, 3, 7), of like ones 5 and 2 not 4 and 3", () -> x.deal(2, 3, 7), 2);
    duePurse(39, x, 2, 2, 1, 3, 2, 4, 2, 5, 1);
    duePurse(39, x, 3, 2, 1, 5, 1);
    due(39, "deal(2, 3, 2), of like ones the greater given", () -> x.deal(2, 3, 2), 1);
    due(39, "deal(2, 3, 1)", () -> x.deal(2, 3, 1), 2);
    duePurse(39, x, 2, 2, 1, 3, 1, 4, 2, 5, 1);
    duePurse(39, x, 3, 2, 1, 3, 1, 5, 1);
  }

  private static void fullPurses() {
    int[] twelve = new int[12];
    for (int i = 0; i < 12; i++) {
      twelve[i] = 10 + i;
    }
    MintHouse x = house(twelve, of(100, 200));
    x.open(0, 0);
    x.open(1, 1);
    x.fill(1, 100, 20);
    due(38, "change(1, 0, 100)", () -> x.change(1, 0, 100), 1);
    due(39, "deal to a purse of 12 values", () -> x.deal(1, 0, 100), -2);
    due(39, "has(0, -1)", () -> x.has(0, -1), 12);
    due(39, "has(1, 0)", () -> x.has(1, 0), 20);
    x.open(2, 1);
    x.fill(2, 100, 1);
    due(39, "deal above 20 of one", () -> x.deal(2, 1, 100), -2);
    duePurse(39, x, 2, 100, 1, 200, 0);
    due(39, "deal(1, 2, 1900)", () -> x.deal(1, 2, 1900), 19);
    duePurse(39, x, 2, 100, 20, 200, 0);
    x.fill(0, 10, 1);
    x.fill(1, 200, 1);
    due(39, "the payer gets a value, the taker is full", () -> x.deal(1, 0, 190), -2);
    x.open(3, 1);
    x.fill(3, 200, 1);
    x.open(4, 5);
    x.coin(6, 10);
    x.open(5, 6);
    x.fill(5, 10, 1);
    due(39, "both get a value", () -> x.deal(3, 5, 190), 2);
    duePurse(39, x, 3, 10, 1, 100, 0, 200, 0);
    duePurse(39, x, 5, 10, 0, 200, 1);
  }

  public static void main(String[] args) {
    newObject();
    coinMeltAt();
    undoRedo();
    fewestWithGreedy();
    failures();
    gaps();
    mintsOfMints();
    mintsTooBig();
    waysAndHand();
    aparts();
    stampsAndSpan();
    searches();
    purses();
    purseLimits();
    changes();
    fullPurses();
    System.out.println(wrong == 0 ? checked + " answers are as due" : wrong + " answers are not as due");
    if (wrong != 0) {
      System.exit(1);
    }
  }
}
