import java.math.BigInteger;
import java.util.ArrayList;
import java.util.Arrays;
import java.util.List;
import java.util.Random;
import java.util.TreeSet;

/** Compares the class with plain reckoning by the document's own words, on mints and purses drawn by a fixed seed. */
public final class BruteTest {
  // What an object answers beyond so many calls is free.
  private static final int MOST_CALLS = 512;
  private static final Random DRAW = new Random(20261116);
  private static int wrong = 0;
  private static long checked = 0;
  private static int asked = 0;

  private static void due(String call, long got, long want) {
    checked++;
    if (got != want) {
      wrong++;
      if (wrong <= 50) {
        System.out.println(call + " answered " + got + ", due is " + want);
      }
    }
  }

  private static int[] draw(int mostCoins, int mostValue) {
    int n = DRAW.nextInt(mostCoins + 1);
    TreeSet<Integer> values = new TreeSet<>();
    for (int i = 0; i < n; i++) {
      values.add(1 + DRAW.nextInt(mostValue));
    }
    return values.stream().mapToInt(Integer::intValue).toArray();
  }

  private static void fill(MintHouse x, int mint, int[] coins) {
    for (int c : coins) {
      x.coin(mint, c);
    }
  }

  private static MintHouse houseOf(int[] coins) {
    MintHouse x = new MintHouse();
    fill(x, 0, coins);
    asked = coins.length;
    return x;
  }

  /** The object that was made last, if it serves so many calls more, else a new one with the same mint. */
  private static MintHouse serving(MintHouse x, int[] coins, int calls) {
    MintHouse next = asked + calls <= MOST_CALLS ? x : houseOf(coins);
    asked += calls;
    return next;
  }

  private static boolean[] paid(int[] coins, int to) {
    boolean[] paid = new boolean[to + 1];
    paid[0] = true;
    for (int s = 1; s <= to; s++) {
      for (int c : coins) {
        paid[s] |= s >= c && paid[s - c];
      }
    }
    return paid;
  }

  /** The told paying of each sum, and null where there is none. */
  private static int[][] told(int[] coins, int to) {
    int[][] told = new int[to + 1][];
    told[0] = new int[coins.length];
    for (int s = 1; s <= to; s++) {
      for (int i = 0; i < coins.length; i++) {
        if (s >= coins[i] && told[s - coins[i]] != null) {
          int[] paying = told[s - coins[i]].clone();
          paying[i]++;
          if (told[s] == null || better(paying, told[s])) {
            told[s] = paying;
          }
        }
      }
    }
    return told;
  }

  private static boolean better(int[] a, int[] b) {
    int sizes = Integer.compare(size(a), size(b));
    return sizes != 0 ? sizes < 0 : foremost(a, b) > 0;
  }

  /** Above 0 if a has the greatest coin more often, or if as often the next greatest, and so on. */
  private static int foremost(int[] a, int[] b) {
    for (int i = a.length - 1; i >= 0; i--) {
      if (a[i] != b[i]) {
        return a[i] - b[i];
      }
    }
    return 0;
  }

  private static int size(int[] paying) {
    return Arrays.stream(paying).sum();
  }

  private static long greedy(int[] coins, long s) {
    long left = s;
    long size = 0;
    for (boolean found = true; found;) {
      found = false;
      for (int i = coins.length - 1; i >= 0 && !found; i--) {
        if (coins[i] <= left) {
          left -= coins[i];
          size++;
          found = true;
        }
      }
    }
    return left == 0 ? size : -1;
  }

  private static void fewestOfAll(int[] coins, int to) {
    MintHouse x = houseOf(coins);
    int[][] told = told(coins, to);
    String mint = Arrays.toString(coins);
    int fails = -1;
    for (int s = 0; s <= to; s++) {
      int size = told[s] == null ? -1 : size(told[s]);
      x = serving(x, coins, 2 + coins.length);
      due(mint + " fewest " + s, x.fewest(0, s), size);
      for (int i = 0; i < coins.length; i++) {
        due(mint + " with " + s + ", " + i, x.with(0, s, i), told[s] == null ? -1 : told[s][i]);
      }
      long greedy = greedy(coins, s);
      due(mint + " greedy " + s, x.greedy(0, s), greedy);
      if (fails == -1 && size != -1 && greedy != size) {
        fails = s;
      }
    }
    x = serving(x, coins, 13);
    due(mint + " fails", x.fails(0), fails);
    due(mint + " always", x.always(0) ? 1 : 0, fails == -1 ? 1 : 0);
    for (int round = 0; round < 5; round++) {
      int a = DRAW.nextInt(to + 1);
      int b = a + DRAW.nextInt(to + 1 - a);
      due(mint + " span " + a + ", " + b, x.span(0, a, b), spanOf(told, a, b));
    }
    for (int h : new int[] {1, 2, 3, 7, 20, 50}) {
      int reach = 0;
      while (reach < to && told[reach + 1] != null && size(told[reach + 1]) <= h) {
        reach++;
      }
      if (reach < to) {
        due(mint + " stamps " + h, x.stamps(0, h), reach);
      }
    }
  }

  private static long spanOf(int[][] told, int a, int b) {
    long all = 0;
    for (int s = a; s <= b; s++) {
      if (told[s] == null) {
        return -1;
      }
      all += size(told[s]);
    }
    return all;
  }

  /** A sum far up is paid as one near by, and greatest coins. */
  private static void fewestFarUp(int[] coins) {
    if (coins.length == 0) {
      return;
    }
    int greatest = coins[coins.length - 1];
    int to = 3 * greatest * greatest + greatest;
    int[][] told = told(coins, to);
    MintHouse x = houseOf(coins);
    for (int near = to - greatest + 1; near <= to; near++) {
      long more = (1_000_000_000_000_000L - to) / greatest;
      long s = near + more * greatest;
      String call = Arrays.toString(coins) + " at " + s;
      x = serving(x, coins, 1 + coins.length);
      due(call + " fewest", x.fewest(0, s), told[near] == null ? -1 : size(told[near]) + more);
      for (int i = 0; i < coins.length; i++) {
        long want = told[near] == null ? -1 : told[near][i] + (i == coins.length - 1 ? more : 0);
        due(call + " with " + i, x.with(0, s, i), want);
      }
    }
  }

  /** Great coins: sizes alone, by a plain table of all sums. */
  private static void sizesOfGreatCoins(int[] coins) {
    int to = 100_000;
    int[] size = new int[to + 1];
    for (int s = 1; s <= to; s++) {
      size[s] = -1;
      for (int c : coins) {
        if (s >= c && size[s - c] != -1 && (size[s] == -1 || size[s - c] + 1 < size[s])) {
          size[s] = size[s - c] + 1;
        }
      }
    }
    MintHouse x = houseOf(coins);
    long all = 0;
    int from = to;
    while (from >= 0 && size[from] != -1) {
      all += size[from];
      from--;
    }
    String mint = Arrays.toString(coins);
    x = serving(x, coins, 3);
    if (from < to) {
      due(mint + " span", x.span(0, from + 1, to), all);
    }
    if (from >= 0) {
      due(mint + " span with a gap", x.span(0, from, to), -1);
    }
    due(mint + " fails", x.fails(0), failsOf(coins, size));
    for (int s = to; s >= 0; s -= 1 + DRAW.nextInt(40)) {
      x = serving(x, coins, 1);
      due(mint + " fewest " + s, x.fewest(0, s), size[s]);
    }
  }

  private static int failsOf(int[] coins, int[] size) {
    for (int s = 1; s < size.length; s++) {
      if (size[s] != -1 && greedyBig(coins, s) != size[s]) {
        return s;
      }
    }
    return -1;
  }

  private static long greedyBig(int[] coins, int s) {
    int left = s;
    int size = 0;
    for (int i = coins.length - 1; i >= 0; i--) {
      size += left / coins[i];
      left %= coins[i];
    }
    return left == 0 ? size : -1;
  }

  private static int divisorOf(int[] coins) {
    for (int d = 300; d >= 1; d--) {
      int common = d;
      if (coins.length > 0 && Arrays.stream(coins).allMatch(c -> c % common == 0)) {
        return d;
      }
    }
    return 0;
  }

  private static void gapsOf(int[] coins, int to) {
    MintHouse x = houseOf(coins);
    String mint = Arrays.toString(coins);
    boolean[] paid = paid(coins, to);
    List<Integer> gaps = new ArrayList<>();
    for (int s = 0; s <= to; s++) {
      if (!paid[s]) {
        gaps.add(s);
      }
    }
    int divisor = divisorOf(coins);
    boolean end = divisor == 1;
    int last = gaps.isEmpty() ? -1 : gaps.get(gaps.size() - 1);
    x = serving(x, coins, 3);
    due(mint + " divisor", x.divisor(0), divisor);
    due(mint + " many", x.many(0), end ? gaps.size() : -1);
    due(mint + " last", x.last(0), end ? last : -2);
    for (int i = 0; i < gaps.size(); i += 1 + DRAW.nextInt(1 + to / 400)) {
      x = serving(x, coins, 1);
      due(mint + " gap " + i, x.gap(0, i), gaps.get(i));
    }
    x = serving(x, coins, 3 + (coins.length > 0 ? coins[0] : 0));
    if (end) {
      due(mint + " gap " + gaps.size(), x.gap(0, gaps.size()), -1);
    }
    boolean mirror = end && last >= 0;
    for (int s = 0; mirror && s <= last; s++) {
      mirror = paid[s] != paid[last - s];
    }
    due(mint + " mirror", x.mirror(0) ? 1 : 0, mirror ? 1 : 0);
    int[] rests = new int[coins.length > 0 ? coins[0] : 0];
    Arrays.fill(rests, -1);
    for (int s = to; s >= 0 && coins.length > 0; s--) {
      rests[s % coins[0]] = paid[s] ? s : rests[s % coins[0]];
    }
    for (int r = 0; r < rests.length; r++) {
      due(mint + " rest " + r, x.rest(0, r), rests[r]);
    }
    int needed = 0;
    for (int i = 0; i < coins.length; i++) {
      int[] others = coins.clone();
      others[i] = to + 1;
      needed |= paid(others, coins[i])[coins[i]] ? 0 : 1 << i;
    }
    due(mint + " needed", x.needed(0), needed);
  }

  /** The needed coins of a set of sums that holds each two of its sums together: null if a mint can't have them. */
  private static List<Integer> neededOf(boolean[] sums) {
    List<Integer> needed = new ArrayList<>();
    for (int s = 1; s < sums.length; s++) {
      boolean split = false;
      for (int t = 1; t <= s / 2 && sums[s]; t++) {
        split |= sums[t] && sums[s - t];
      }
      if (sums[s] && !split) {
        needed.add(s);
      }
    }
    boolean fits = needed.size() <= 12 && (needed.isEmpty() || needed.get(needed.size() - 1) <= 300);
    return fits ? needed : null;
  }

  private static void dueMint(String call, MintHouse x, int mint, long got, List<Integer> want) {
    due(call, got, want == null ? -1 : want.size());
    List<Integer> due = want == null ? List.of(299) : want;
    due(call + ": count", x.at(mint, -1), due.size());
    for (int i = 0; i < due.size() && i < x.at(mint, -1); i++) {
      due(call + ": coin " + i, x.at(mint, i), due.get(i));
    }
    due(call + ": undo", x.undo() ? 1 : 0, 1);
    if (want == null) {
      x.redo();
      due(call + ": nothing new was to undo", x.at(mint, -1), 1);
    } else {
      due(call + ": as before", x.at(mint, 0), 299);
    }
  }

  private static void mintsOfMints(int[] a, int[] b, int to) {
    MintHouse x = new MintHouse();
    fill(x, 0, a);
    fill(x, 1, b);
    x.coin(2, 299);
    String mints = Arrays.toString(a) + " and " + Arrays.toString(b);
    boolean[] paidA = paid(a, to);
    boolean[] paidB = paid(b, to);
    boolean[] both = new boolean[to + 1];
    boolean[] joined = new boolean[to + 1];
    for (int s = 0; s <= to; s++) {
      both[s] = paidA[s] && paidB[s];
      for (int t = 0; t <= s && !joined[s]; t++) {
        joined[s] = paidA[t] && paidB[s - t];
      }
    }
    due(mints + " same", x.same(0, 1) ? 1 : 0, Arrays.equals(paidA, paidB) ? 1 : 0);
    dueMint(mints + " join", x, 2, x.join(0, 1, 2), neededOf(joined));
    dueMint(mints + " part", x, 2, x.part(0, 1, 2), neededOf(both));
    for (int round = 0; round < 4; round++) {
      int d = 1 + DRAW.nextInt(round == 0 ? 300 : 12);
      boolean[] factor = new boolean[700];
      boolean[] wide = paid(a, 700 * d);
      for (int s = 0; s < factor.length; s++) {
        factor[s] = wide[d * s];
      }
      dueMint(mints + " factor " + d, x, 2, x.factor(0, d, 2), neededOf(factor));
    }
  }

  private static void collect(int[] coins, int i, int left, int[] paying, List<int[]> into) {
    if (i < 0) {
      if (left == 0) {
        into.add(paying.clone());
      }
      return;
    }
    for (int often = left / coins[i]; often >= 0; often--) {
      paying[i] = often;
      collect(coins, i - 1, left - often * coins[i], paying, into);
    }
    paying[i] = 0;
  }

  private static void payingsOf(int[] coins, int s) {
    List<int[]> payings = new ArrayList<>();
    collect(coins, coins.length - 1, s, new int[coins.length], payings);
    MintHouse x = houseOf(coins);
    String call = Arrays.toString(coins) + " of " + s;
    x = serving(x, coins, 3);
    due(call + " ways", x.ways(0, s), payings.size());
    due(call + " of behind the last", x.of(0, s, payings.size()) ? 1 : 0, 0);
    due(call + " apart", x.apart(0, s), apartOf(payings));
    for (int rank = 0; rank < payings.size(); rank += 1 + rank / 40) {
      x = serving(x, coins, 2 + coins.length);
      due(call + " of " + rank, x.of(0, s, rank) ? 1 : 0, 1);
      for (int i = 0; i < coins.length; i++) {
        due(call + " hand " + rank + ", " + i, x.hand(i), payings.get(rank)[i]);
      }
      due(call + " rank", x.rank(), rank);
    }
  }

  /** Ways of all sums by numbers without an end, and great ranks there and back. */
  private static void greatWays(int[] coins) {
    BigInteger limit = BigInteger.valueOf(4_000_000_000_000_000_000L);
    BigInteger[] ways = new BigInteger[3001];
    Arrays.fill(ways, BigInteger.ZERO);
    ways[0] = BigInteger.ONE;
    for (int c : coins) {
      for (int s = c; s <= 3000; s++) {
        ways[s] = ways[s].add(ways[s - c]);
      }
    }
    MintHouse x = houseOf(coins);
    for (int s = 0; s <= 3000; s++) {
      x = serving(x, coins, 3 + coins.length);
      String call = Arrays.toString(coins) + " of " + s;
      boolean told = ways[s].compareTo(limit) <= 0;
      due(call + " ways", x.ways(0, s), told ? ways[s].longValue() : -2);
      long rank = told ? ways[s].longValue() - 1 - DRAW.nextInt(3) : 0;
      due(call + " of " + rank, x.of(0, s, rank) ? 1 : 0, told && rank >= 0 ? 1 : 0);
      if (told && rank >= 0) {
        due(call + " rank", x.rank(), rank);
        int sum = 0;
        for (int i = 0; i < coins.length; i++) {
          sum += x.hand(i) * coins[i];
        }
        due(call + " sum of the hand", sum, s);
      }
    }
  }

  private static int apartOf(List<int[]> payings) {
    int n = payings.size();
    if (n == 0 || n > 200) {
      return n == 0 ? -1 : -2;
    }
    for (int d = 0;; d++) {
      boolean[] led = new boolean[n];
      List<Integer> open = new ArrayList<>(List.of(0));
      led[0] = true;
      for (int at = 0; at < open.size(); at++) {
        for (int p = 0; p < n; p++) {
          if (!led[p] && differ(payings.get(open.get(at)), payings.get(p)) <= d) {
            led[p] = true;
            open.add(p);
          }
        }
      }
      if (open.size() == n) {
        return d;
      }
    }
  }

  private static int differ(int[] a, int[] b) {
    int both = 0;
    for (int i = 0; i < a.length; i++) {
      both += Math.min(a[i], b[i]);
    }
    return Math.max(size(a), size(b)) - both;
  }

  private static int cases;
  private static int bestReach;
  private static int[] bestMint;

  private static void look(int[] beginning, int k, int h) {
    cases++;
    if (cases > 2000) {
      return;
    }
    int reach = 0;
    int[][] told = told(beginning, h * beginning[beginning.length - 1] + 1);
    while (told[reach + 1] != null && size(told[reach + 1]) <= h) {
      reach++;
    }
    if (beginning.length == k) {
      if (reach > bestReach) {
        bestReach = reach;
        bestMint = beginning;
      }
      return;
    }
    for (int c = beginning[beginning.length - 1] + 1; c <= Math.min(300, reach + 1) && cases <= 2000; c++) {
      int[] next = Arrays.copyOf(beginning, beginning.length + 1);
      next[beginning.length] = c;
      look(next, k, h);
    }
  }

  private static void searchesAll() {
    for (int k = 1; k <= 6; k++) {
      for (int h = 1; h <= 12; h++) {
        cases = 0;
        bestReach = 0;
        look(new int[] {1}, k, h);
        MintHouse x = new MintHouse();
        x.coin(3, 77);
        String call = "best " + k + ", " + h;
        due(call, x.best(k, h, 3), cases > 2000 ? -2 : bestReach);
        due(call + " cases", x.cases(), Math.min(2000, cases));
        int[] want = cases > 2000 ? new int[] {77} : bestMint;
        due(call + " count", x.at(3, -1), want.length);
        for (int i = 0; i < want.length; i++) {
          due(call + " coin " + i, x.at(3, i), want[i]);
        }
      }
    }
  }

  private static void collectPurse(int[] coins, int[] counts, int i, int[] given, List<int[]> into) {
    if (i < 0) {
      into.add(given.clone());
      return;
    }
    for (int often = 0; often <= counts[i]; often++) {
      given[i] = often;
      collectPurse(coins, counts, i - 1, given, into);
    }
    given[i] = 0;
  }

  private static int sum(int[] coins, int[] counts) {
    int sum = 0;
    for (int i = 0; i < coins.length; i++) {
      sum += coins[i] * counts[i];
    }
    return sum;
  }

  private static int[] drawCounts(int n, int most) {
    int[] counts = new int[n];
    for (int i = 0; i < n; i++) {
      counts[i] = DRAW.nextInt(most + 1);
    }
    return counts;
  }

  private static void fillPurse(MintHouse x, int purse, int mint, int[] coins, int[] counts) {
    fill(x, mint, coins);
    x.open(purse, mint);
    for (int i = 0; i < coins.length; i++) {
      x.fill(purse, coins[i], counts[i]);
    }
  }

  private static void pursesOf(int[] coins, int[] counts, int[] others, int[] otherCounts) {
    List<int[]> gives = new ArrayList<>();
    List<int[]> backs = new ArrayList<>();
    collectPurse(coins, counts, coins.length - 1, new int[coins.length], gives);
    collectPurse(others, otherCounts, others.length - 1, new int[others.length], backs);
    MintHouse x = new MintHouse();
    fillPurse(x, 4, 0, coins, counts);
    String call = Arrays.toString(coins) + " " + Arrays.toString(counts) + " to " + Arrays.toString(others) + " "
        + Arrays.toString(otherCounts);
    int total = sum(coins, counts);
    int[] fewest = new int[total + 1];
    Arrays.fill(fewest, -1);
    for (int[] give : gives) {
      int s = sum(coins, give);
      fewest[s] = fewest[s] == -1 ? size(give) : Math.min(fewest[s], size(give));
    }
    int holes = 0;
    for (int s = 0; s <= total; s++) {
      due(call + " pays " + s, x.pays(4, s), fewest[s]);
      holes += fewest[s] == -1 ? 1 : 0;
    }
    due(call + " holes", x.holes(4), holes);
    due(call + " pays too much", x.pays(4, total + 1), -1);
    for (int s = 0; s <= total + 1; s++) {
      if (s % 8 == 0) {
        // Eight deals with a look at both purses take some 450 calls.
        x = new MintHouse();
        fillPurse(x, 4, 0, coins, counts);
        fillPurse(x, 5, 1, others, otherCounts);
      }
      int[] give = null;
      int[] back = null;
      for (int[] g : gives) {
        for (int[] b : backs) {
          if (sum(coins, g) - sum(others, b) == s && (give == null || changeBetter(g, b, give, back))) {
            give = g;
            back = b;
          }
        }
      }
      due(call + " change " + s, x.change(4, 5, s), give == null ? -1 : size(give) + size(back));
      due(call + " deal " + s, x.deal(4, 5, s), give == null ? -1 : size(give) + size(back));
      if (give != null) {
        duePurse(call + " payer after " + s, x, 4, after(coins, counts, give, others, back));
        duePurse(call + " taker after " + s, x, 5, after(others, otherCounts, back, coins, give));
        x.undo();
      }
    }
  }

  private static boolean changeBetter(int[] g, int[] b, int[] give, int[] back) {
    int sizes = Integer.compare(size(g) + size(b), size(give) + size(back));
    if (sizes != 0) {
      return sizes < 0;
    }
    int payers = foremost(g, give);
    return payers != 0 ? payers > 0 : foremost(b, back) > 0;
  }

  /** By value: how many there are, NONE where the value isn't among the purse's coins. */
  private static int[] after(int[] coins, int[] counts, int[] less, int[] others, int[] more) {
    int[] after = new int[301];
    Arrays.fill(after, -1);
    for (int i = 0; i < coins.length; i++) {
      after[coins[i]] = counts[i] - less[i];
    }
    for (int i = 0; i < others.length; i++) {
      if (more[i] > 0) {
        after[others[i]] = Math.max(0, after[others[i]]) + more[i];
      }
    }
    return after;
  }

  private static void duePurse(String call, MintHouse x, int purse, int[] byValue) {
    int i = 0;
    for (int v = 1; v <= 300; v++) {
      if (byValue[v] >= 0) {
        if (i >= x.has(purse, -1)) {
          due(call + " values", x.has(purse, -1), i + 1);
          return;
        }
        due(call + " value", x.has(purse, -3 - i), v);
        due(call + " often", x.has(purse, i), byValue[v]);
        i++;
      }
    }
    due(call + " values", x.has(purse, -1), i);
  }

  /** Great purses: sizes alone, coin by coin. */
  private static void greatPurse() {
    int[] coins = draw(12, 300);
    int[] counts = drawCounts(coins.length, 20);
    while (sum(coins, counts) > 20_000) {
      int i = DRAW.nextInt(coins.length);
      counts[i] = counts[i] / 2;
    }
    int total = sum(coins, counts);
    int[] fewest = new int[total + 1];
    Arrays.fill(fewest, 1, total + 1, -1);
    for (int i = 0; i < coins.length; i++) {
      for (int one = 0; one < counts[i]; one++) {
        for (int s = total; s >= coins[i]; s--) {
          int before = fewest[s - coins[i]];
          if (before != -1 && (fewest[s] == -1 || before + 1 < fewest[s])) {
            fewest[s] = before + 1;
          }
        }
      }
    }
    String call = Arrays.toString(coins) + Arrays.toString(counts);
    MintHouse x = new MintHouse();
    int holes = 0;
    for (int s = 0; s <= total; s++) {
      if (s % 480 == 0) {
        // To fill it and to ask for the holes takes up to 26 calls.
        x = new MintHouse();
        fillPurse(x, 0, 0, coins, counts);
      }
      due(call + " pays " + s, x.pays(0, s), fewest[s]);
      holes += fewest[s] == -1 ? 1 : 0;
    }
    due(call + " holes", x.holes(0), holes);
  }

  public static void main(String[] args) {
    fewestOfAll(new int[0], 20);
    for (int round = 0; round < 250; round++) {
      int[] coins = draw(1 + DRAW.nextInt(6), 2 + DRAW.nextInt(22));
      int most = coins.length == 0 ? 1 : coins[coins.length - 1];
      fewestOfAll(coins, 3 * most * most + 60);
      fewestFarUp(coins);
      gapsOf(coins, 3 * most * most + 60);
    }
    for (int round = 0; round < 12; round++) {
      fewestOfAll(draw(12, 300), 2000);
    }
    sizesOfGreatCoins(new int[] {299, 300});
    sizesOfGreatCoins(new int[] {1, 300});
    sizesOfGreatCoins(new int[] {1});
    sizesOfGreatCoins(new int[] {300});
    for (int round = 0; round < 40; round++) {
      int[] coins = draw(1 + DRAW.nextInt(round < 30 ? 4 : 12), 300);
      if (coins.length > 0) {
        sizesOfGreatCoins(coins);
        gapsOf(coins, 100_000);
      }
    }
    for (int round = 0; round < 300; round++) {
      int most = 1 + DRAW.nextInt(round % 3 == 0 ? 40 : 14);
      mintsOfMints(draw(4, most), draw(4, most), 2 * most * most + 320);
    }
    for (int round = 0; round < 300; round++) {
      payingsOf(draw(1 + DRAW.nextInt(5), 3 + DRAW.nextInt(20)), DRAW.nextInt(60));
    }
    payingsOf(new int[] {1, 300}, 3000);
    greatWays(new int[] {1, 2, 3, 4, 5, 6, 7, 8, 9, 10, 11, 12});
    greatWays(new int[] {1, 2, 3, 4, 5, 6, 7, 8, 9, 10, 11, 30});
    greatWays(new int[] {1, 2, 3, 4, 5, 7, 11, 13, 17, 19, 23, 29});
    for (int round = 0; round < 10; round++) {
      greatWays(draw(12, 20 + 28 * round));
    }
    payingsOf(new int[] {7, 16, 300}, 1700);
    searchesAll();
    for (int round = 0; round < 120; round++) {
      int[] coins = draw(4, 12);
      int[] others = draw(4, 12);
      pursesOf(coins, drawCounts(coins.length, 3), others, drawCounts(others.length, 3));
    }
    for (int round = 0; round < 25; round++) {
      greatPurse();
    }
    System.out.println(wrong == 0 ? checked + " answers are as due" : wrong + " answers are not as due");
    if (wrong != 0) {
      System.exit(1);
    }
  }
}
