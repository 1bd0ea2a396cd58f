import java.util.Arrays;
import java.util.NoSuchElementException;

/**
 * The mint of a small land. The numbered promises are those of DOC.md; every row that a call works
 * on is made once, with the object, because all calls of a run share one room.
 */
public final class MintHouse {
    public static final int NONE = -1;

    // The one other answer below NONE: too many to be told, or without end.
    private static final int BEYOND = -2;
    private static final int PLACES = 8;
    private static final int MOST_COINS = 12;
    private static final int MOST_VALUE = 300;
    private static final int MOST_UNDONE = 20;
    private static final long MOST_SUM = 1_000_000_000_000_000L;
    private static final int MOST_GAP = 1_000_000;
    private static final int MOST_COUNTED = 3000;
    private static final long MOST_WAYS = 4_000_000_000_000_000_000L;
    private static final int MOST_PAYINGS = 200;
    private static final int MOST_STAMPS = 50;
    private static final int MOST_SPAN = 100_000;
    private static final int MOST_SEARCHED = 6;
    private static final int MOST_SEARCHED_STAMPS = 12;
    private static final int MOST_CASES = 2000;
    private static final int MOST_OF_ONE = 20;
    private static final int MOST_IN_PURSE = 20_000;
    private static final int UNREACHED = Integer.MAX_VALUE;
    private static final long UNPAID = Long.MAX_VALUE;

    private final History history = new History();
    private final Fewest fewestTable = new Fewest();
    private final LeastSums leastSums = new LeastSums();
    private final LeastSums otherSums = new LeastSums();
    private final LeastSums pickedSums = new LeastSums();
    private final Needs needs = new Needs();
    private final Coins kept = new Coins();
    private final WaysTable waysTable = new WaysTable();
    private final Payings payings = new Payings();
    private final StampSearch search = new StampSearch();
    private final PurseTable payerTable = new PurseTable();
    private final PurseTable takerTable = new PurseTable();
    private final Purse payerAfter = new Purse();
    private final Purse takerAfter = new Purse();
    private final Purse held = new Purse();
    private boolean holding = false;

    public MintHouse() {
    }

    // ---- Promises 2 to 6: mints and states ----

    public int coin(int mint, int value) {
        if (!isPlace(mint) || value < 1 || value > MOST_VALUE) {
            return NONE;
        }
        Coins before = history.mint(mint);
        if (before.isFull() || before.holds(value)) {
            return NONE;
        }
        history.begin();
        Coins coins = history.mint(mint);
        coins.insert(value);
        return coins.count();
    }

    public boolean melt(int mint, int value) {
        if (!isPlace(mint) || !history.mint(mint).holds(value)) {
            return false;
        }
        history.begin();
        history.mint(mint).remove(value);
        return true;
    }

    public int at(int mint, int i) throws NoSuchElementException {
        Coins coins = mintAt(mint);
        if (i == NONE) {
            return coins.count();
        }
        checkCoin(coins, i);
        return coins.value(i);
    }

    public boolean undo() {
        return history.back();
    }

    public boolean redo() {
        return history.forth();
    }

    // ---- Promises 7 to 11: the fewest, and the greatest coin first ----

    public long fewest(int mint, long s) throws NoSuchElementException, IllegalArgumentException {
        Coins coins = mintAt(mint);
        checkSum(s);
        fewestTable.take(coins);
        return fewestTable.size(s);
    }

    public long with(int mint, long s, int i) throws NoSuchElementException, IllegalArgumentException {
        Coins coins = mintAt(mint);
        checkCoin(coins, i);
        checkSum(s);
        fewestTable.take(coins);
        return fewestTable.often(s, i);
    }

    public long greedy(int mint, long s) throws NoSuchElementException, IllegalArgumentException {
        Coins coins = mintAt(mint);
        checkSum(s);
        return coins.greatestFirst(s);
    }

    public boolean always(int mint) throws NoSuchElementException {
        return leastFailure(mintAt(mint)) == NONE;
    }

    public int fails(int mint) throws NoSuchElementException {
        return leastFailure(mintAt(mint));
    }

    // ---- Promises 12 to 17: gaps ----

    public int divisor(int mint) throws NoSuchElementException {
        return mintAt(mint).commonDivisor();
    }

    public long many(int mint) throws NoSuchElementException {
        Coins coins = mintAt(mint);
        if (coins.commonDivisor() != 1) {
            return NONE;
        }
        leastSums.take(coins, coins.least());
        return leastSums.missing();
    }

    public int last(int mint) throws NoSuchElementException {
        return lastGap(mintAt(mint));
    }

    public int gap(int mint, int i) throws NoSuchElementException, IllegalArgumentException {
        Coins coins = mintAt(mint);
        if (i < 0 || i > MOST_GAP) {
            throw new IllegalArgumentException("i is not 0 to 1,000,000");
        }
        if (coins.count() == 0) {
            return i + 1;
        }
        leastSums.take(coins, coins.least());
        if (coins.commonDivisor() != 1) {
            // At least every second sum is a gap where the divisor is 2 or more.
            return leastSums.missingAt(i, 2 * (i + 1));
        }
        return i < leastSums.missing() ? leastSums.missingAt(i, leastSums.lastMissing()) : NONE;
    }

    public int rest(int mint, int r) throws NoSuchElementException, IllegalArgumentException {
        Coins coins = mintAt(mint);
        if (r < 0 || r >= coins.least()) {
            throw new IllegalArgumentException("r is no rest of the least coin");
        }
        leastSums.take(coins, coins.least());
        int sum = leastSums.least(r);
        return sum == UNREACHED ? NONE : sum;
    }

    public boolean mirror(int mint) throws NoSuchElementException {
        int last = lastGap(mintAt(mint));
        // s and last - s are never both paid, for then last would be; so just one of each two is
        // paid if the gaps are no more than half of the sums from 0 to last.
        return last >= 0 && 2 * leastSums.missing() == last + 1;
    }

    // ---- Promises 18 to 22: needed coins, and mints made of mints ----

    public int needed(int mint) throws NoSuchElementException {
        Coins coins = mintAt(mint);
        needs.clear();
        needs.offerAll(coins);
        needs.pick();
        int bits = 0;
        for (int i = 0; i < coins.count(); i++) {
            if (needs.picked().holds(coins.value(i))) {
                bits |= 1 << i;
            }
        }
        return bits;
    }

    public boolean same(int mint, int other) throws NoSuchElementException {
        Coins one = mintAt(mint);
        Coins two = mintAt(other);
        needs.clear();
        needs.offerAll(one);
        needs.pick();
        kept.copy(needs.picked());
        needs.clear();
        needs.offerAll(two);
        needs.pick();
        return kept.alike(needs.picked());
    }

    public int join(int a, int b, int mint) throws NoSuchElementException {
        Coins one = mintAt(a);
        Coins two = mintAt(b);
        mintAt(mint);
        needs.clear();
        needs.offerAll(one);
        needs.offerAll(two);
        return needs.pick() ? becomePicked(mint) : NONE;
    }

    public int part(int a, int b, int mint) throws NoSuchElementException {
        Coins one = mintAt(a);
        Coins two = mintAt(b);
        mintAt(mint);
        needs.clear();
        if (one.count() == 0 || two.count() == 0) {
            needs.pick();
            return becomePicked(mint);
        }
        offerCommon(one, two);
        return needs.pick() && pickedPayCommon(one, two) ? becomePicked(mint) : NONE;
    }

    public int factor(int a, int d, int mint) throws NoSuchElementException, IllegalArgumentException {
        Coins coins = mintAt(a);
        mintAt(mint);
        if (d < 1 || d > MOST_VALUE) {
            throw new IllegalArgumentException("d is not 1 to 300");
        }
        needs.clear();
        if (coins.count() > 0) {
            // No needed coin lies above 300: of any d coins some pay a multiple of d, so d times a
            // sum that can't be split is paid by d coins at most, each of them 300 at most.
            leastSums.take(coins, coins.least());
            for (int s = 1; s <= MOST_VALUE; s++) {
                if (leastSums.reaches(d * s)) {
                    needs.offer(s);
                }
            }
        }
        return needs.pick() ? becomePicked(mint) : NONE;
    }

    // ---- Promises 23 to 28: payings ----

    public long ways(int mint, int s) throws NoSuchElementException, IllegalArgumentException {
        Coins coins = mintAt(mint);
        checkCounted(s);
        return countWays(coins, s);
    }

    public boolean of(int mint, int s, long rank) throws NoSuchElementException, IllegalArgumentException {
        Coins coins = mintAt(mint);
        checkCounted(s);
        // Ways beyond counting are -2, so that no rank is below them.
        if (rank < 0 || rank >= countWays(coins, s)) {
            return false;
        }
        held.refit(coins);
        waysTable.lay(s, rank, held);
        holding = true;
        return true;
    }

    public int hand(int i) throws NoSuchElementException {
        checkHeld(i);
        return held.often(i);
    }

    public int put(int i, int many) throws NoSuchElementException, IllegalArgumentException {
        checkHeld(i);
        if (many < 0 || many > MOST_COUNTED) {
            throw new IllegalArgumentException("many is not 0 to 3000");
        }
        int was = held.often(i);
        held.set(i, many);
        return was;
    }

    public long rank() throws NoSuchElementException {
        if (!holding) {
            throw new NoSuchElementException("nothing lies in hand");
        }
        int sum = held.total();
        if (sum > MOST_COUNTED || countWays(held.coins(), sum) == BEYOND) {
            return NONE;
        }
        return waysTable.rankOf(held);
    }

    public int apart(int mint, int s) throws NoSuchElementException, IllegalArgumentException {
        Coins coins = mintAt(mint);
        checkCounted(s);
        long ways = countWays(coins, s);
        if (ways == 0) {
            return NONE;
        }
        if (ways == BEYOND || ways > MOST_PAYINGS) {
            return BEYOND;
        }
        payings.list(waysTable, s, (int) ways);
        return payings.widestStep();
    }

    // ---- Promises 29 to 32: stamps ----

    public int stamps(int mint, int h) throws NoSuchElementException, IllegalArgumentException {
        Coins coins = mintAt(mint);
        if (h < 1 || h > MOST_STAMPS) {
            throw new IllegalArgumentException("h is not 1 to 50");
        }
        fewestTable.take(coins);
        return fewestTable.allUpTo(h);
    }

    public long span(int mint, int a, int b) throws NoSuchElementException, IllegalArgumentException {
        Coins coins = mintAt(mint);
        if (a < 0 || a > b || b > MOST_SPAN) {
            throw new IllegalArgumentException("not 0 <= a <= b <= 100,000");
        }
        fewestTable.take(coins);
        return fewestTable.together(a, b);
    }

    public int best(int k, int h, int mint) throws NoSuchElementException, IllegalArgumentException {
        mintAt(mint);
        if (k < 1 || k > MOST_SEARCHED || h < 1 || h > MOST_SEARCHED_STAMPS) {
            throw new IllegalArgumentException("k is not 1 to 6, or h not 1 to 12");
        }
        if (!search.run(k, h, fewestTable)) {
            return BEYOND;
        }
        history.begin();
        history.mint(mint).copy(search.found());
        return search.foundReach();
    }

    public int cases() {
        return search.looked();
    }

    // ---- Promises 33 to 39: purses ----

    public void open(int purse, int mint) throws NoSuchElementException {
        purseAt(purse);
        mintAt(mint);
        history.begin();
        history.purse(purse).refit(history.mint(mint));
    }

    public int fill(int purse, int value, int many) throws NoSuchElementException {
        Purse before = purseAt(purse);
        if (!before.coins().holds(value) || many < 0 || many > MOST_OF_ONE) {
            return NONE;
        }
        int i = before.coins().placeFor(value);
        int had = before.often(i);
        if (before.total() + (many - had) * value > MOST_IN_PURSE) {
            return NONE;
        }
        history.begin();
        history.purse(purse).set(i, many);
        return had;
    }

    public int has(int purse, int i) throws NoSuchElementException {
        Purse asked = purseAt(purse);
        if (i == -1) {
            return asked.coins().count();
        }
        if (i == -2) {
            return asked.total();
        }
        int place = i < 0 ? -3 - i : i;
        checkCoin(asked.coins(), place);
        return i < 0 ? asked.coins().value(place) : asked.often(place);
    }

    public int pays(int purse, int s) throws NoSuchElementException {
        payerTable.take(purseAt(purse));
        return payerTable.size(s);
    }

    public int holes(int purse) throws NoSuchElementException {
        payerTable.take(purseAt(purse));
        return payerTable.unpaid();
    }

    public int change(int payer, int taker, int s) throws NoSuchElementException, IllegalArgumentException {
        int back = changeBack(payer, taker, s);
        return back == NONE ? NONE : moved(s, back);
    }

    public int deal(int payer, int taker, int s) throws NoSuchElementException, IllegalArgumentException {
        int back = changeBack(payer, taker, s);
        if (back == NONE) {
            return NONE;
        }
        payerAfter.copy(history.purse(payer));
        takerAfter.copy(history.purse(taker));
        boolean fits = payerTable.move(s + back, payerAfter, takerAfter)
                && takerTable.move(back, takerAfter, payerAfter);
        if (!fits || takerAfter.total() > MOST_IN_PURSE) {
            return BEYOND;
        }
        history.begin();
        history.purse(payer).copy(payerAfter);
        history.purse(taker).copy(takerAfter);
        return moved(s, back);
    }

    // ---- What several promises share ----

    private static boolean isPlace(int place) {
        return place >= 0 && place < PLACES;
    }

    private Coins mintAt(int mint) {
        if (!isPlace(mint)) {
            throw new NoSuchElementException("no such mint");
        }
        return history.mint(mint);
    }

    private Purse purseAt(int purse) {
        if (!isPlace(purse)) {
            throw new NoSuchElementException("no such purse");
        }
        return history.purse(purse);
    }

    private static void checkCoin(Coins coins, int i) {
        if (i < 0 || i >= coins.count()) {
            throw new NoSuchElementException("no such coin");
        }
    }

    private void checkHeld(int i) {
        if (!holding || i < 0 || i >= held.coins().count()) {
            throw new NoSuchElementException("nothing such lies in hand");
        }
    }

    private static void checkSum(long s) {
        if (s < 0 || s > MOST_SUM) {
            throw new IllegalArgumentException("s is not 0 to 1,000,000,000,000,000");
        }
    }

    private static void checkCounted(int s) {
        if (s < 0 || s > MOST_COUNTED) {
            throw new IllegalArgumentException("s is not 0 to 3000");
        }
    }

    private int leastFailure(Coins coins) {
        fewestTable.take(coins);
        // The least failure s is paid best only without the greatest coin (else s less that coin
        // would fail too); and s less any coin c of that paying is below the greatest coin (else
        // greedy would show a paying of s that has the greatest). So s is below the two greatest.
        int bound = coins.greatest() + coins.value(coins.count() - 2);
        for (int s = 1; s < bound; s++) {
            int size = fewestTable.sizeInTable(s);
            if (size != NONE && coins.greatestFirst(s) != size) {
                return s;
            }
        }
        return NONE;
    }

    private int lastGap(Coins coins) {
        if (coins.commonDivisor() != 1) {
            return BEYOND;
        }
        leastSums.take(coins, coins.least());
        // Without gaps the least coin is 1, and the last before 0 is NONE by itself.
        return leastSums.lastMissing();
    }

    private void offerCommon(Coins one, Coins two) {
        leastSums.take(one, one.least());
        otherSums.take(two, two.least());
        for (int s = 1; s <= MOST_VALUE; s++) {
            if (leastSums.reaches(s) && otherSums.reaches(s)) {
                needs.offer(s);
            }
        }
    }

    /** Whether what was picked up to 300 pays all that both mints pay, so that nothing above is needed. */
    private boolean pickedPayCommon(Coins one, Coins two) {
        Coins picked = needs.picked();
        int modulus = picked.least();
        if (modulus == 0) {
            return false;
        }
        // Both mints pay the modulus itself, so each pays all sums of a rest from its least one on.
        leastSums.take(one, modulus);
        otherSums.take(two, modulus);
        pickedSums.take(picked, modulus);
        for (int r = 0; r < modulus; r++) {
            if (pickedSums.least(r) != Math.max(leastSums.least(r), otherSums.least(r))) {
                return false;
            }
        }
        return true;
    }

    private int becomePicked(int mint) {
        history.begin();
        history.mint(mint).copy(needs.picked());
        return needs.picked().count();
    }

    private long countWays(Coins coins, int s) {
        waysTable.take(coins);
        long ways = waysTable.count(s);
        return ways > MOST_WAYS ? BEYOND : ways;
    }

    /** What the taker gives back in the change that is told of s: NONE without one. */
    private int changeBack(int payer, int taker, int s) {
        Purse giving = purseAt(payer);
        Purse taking = purseAt(taker);
        if (s < 0 || payer == taker) {
            throw new IllegalArgumentException("s is below 0, or both are one purse");
        }
        payerTable.take(giving);
        takerTable.take(taking);
        return payerTable.backFrom(takerTable, s);
    }

    private int moved(int s, int back) {
        return payerTable.size(s + back) + takerTable.size(back);
    }

    private static int greatestCommon(int a, int b) {
        int one = a;
        int two = b;
        for (int step = 0; step < 64 && two != 0; step++) {
            int left = one % two;
            one = two;
            two = left;
        }
        return one;
    }

    /** Up to 12 values, rising, no two alike. */
    private static final class Coins {
        private final int[] values = new int[MOST_COINS];
        private int count = 0;

        int count() {
            return count;
        }

        boolean isFull() {
            return count >= MOST_COINS;
        }

        /** The i-th value, and 0 where there is none. */
        int value(int i) {
            return i >= 0 && i < count ? values[i] : 0;
        }

        int least() {
            return value(0);
        }

        int greatest() {
            return value(count - 1);
        }

        /** The place where a value stands, or where it would come to stand. */
        int placeFor(int value) {
            int place = 0;
            while (place < count && values[place] < value) {
                place++;
            }
            return place;
        }

        boolean holds(int value) {
            int place = placeFor(value);
            return place < count && values[place] == value;
        }

        boolean insert(int value) {
            if (isFull() || holds(value)) {
                return false;
            }
            int place = placeFor(value);
            for (int i = count; i > place; i--) {
                values[i] = values[i - 1];
            }
            values[place] = value;
            count++;
            return true;
        }

        void remove(int value) {
            if (!holds(value)) {
                return;
            }
            for (int i = placeFor(value); i < count - 1; i++) {
                values[i] = values[i + 1];
            }
            count--;
        }

        void clear() {
            count = 0;
        }

        void copy(Coins other) {
            count = other.count();
            for (int i = 0; i < count; i++) {
                values[i] = other.value(i);
            }
        }

        boolean alike(Coins other) {
            if (count != other.count()) {
                return false;
            }
            for (int i = 0; i < count; i++) {
                if (values[i] != other.value(i)) {
                    return false;
                }
            }
            return true;
        }

        int commonDivisor() {
            int divisor = 0;
            for (int i = 0; i < count; i++) {
                divisor = greatestCommon(values[i], divisor);
            }
            return divisor;
        }

        /** How many coins the greatest first pays a sum with: NONE if something is left. */
        long greatestFirst(long sum) {
            long left = sum;
            long size = 0;
            for (int i = count - 1; i >= 0; i--) {
                int value = values[i];
                if (value > 0) {
                    size += left / value;
                    left %= value;
                }
            }
            return left == 0 ? size : NONE;
        }
    }

    /** Coins with how often each is there; HAND is kept as one too. */
    private static final class Purse {
        private final Coins coins = new Coins();
        private final int[] counts = new int[MOST_COINS];

        Coins coins() {
            return coins;
        }

        int often(int i) {
            return i >= 0 && i < coins.count() ? counts[i] : 0;
        }

        void set(int i, int many) {
            if (i >= 0 && i < coins.count()) {
                counts[i] = many;
            }
        }

        void refit(Coins kinds) {
            coins.copy(kinds);
            Arrays.fill(counts, 0);
        }

        void copy(Purse other) {
            coins.copy(other.coins());
            for (int i = 0; i < MOST_COINS; i++) {
                counts[i] = other.often(i);
            }
        }

        boolean alike(Purse other) {
            if (!coins.alike(other.coins())) {
                return false;
            }
            for (int i = 0; i < coins.count(); i++) {
                if (counts[i] != other.often(i)) {
                    return false;
                }
            }
            return true;
        }

        int total() {
            int sum = 0;
            for (int i = 0; i < coins.count(); i++) {
                sum += counts[i] * coins.value(i);
            }
            return sum;
        }

        /** So many more of a value (or fewer, below 0): false if it has too many values or of this one. */
        boolean alter(int value, int by) {
            int place = coins.placeFor(value);
            if (!coins.holds(value)) {
                if (!coins.insert(value)) {
                    return false;
                }
                for (int i = coins.count() - 1; i > place; i--) {
                    counts[i] = counts[i - 1];
                }
                counts[place] = 0;
            }
            counts[place] += by;
            return counts[place] <= MOST_OF_ONE;
        }
    }

    /** The states: a ring of the one that is now, those that can be undone and those done again. */
    private static final class History {
        private static final int STATES = MOST_UNDONE + 1;

        private final Coins[] mints = new Coins[STATES * PLACES];
        private final Purse[] purses = new Purse[STATES * PLACES];
        private int now = 0;
        private int behind = 0;
        private int ahead = 0;

        History() {
            for (int i = 0; i < STATES * PLACES; i++) {
                mints[i] = new Coins();
                purses[i] = new Purse();
            }
        }

        Coins mint(int place) {
            return mints[now * PLACES + place];
        }

        Purse purse(int place) {
            return purses[now * PLACES + place];
        }

        /** A new state begins as the one before it; coins and purses asked for earlier stay that one's. */
        void begin() {
            int next = (now + 1) % STATES;
            for (int place = 0; place < PLACES; place++) {
                mints[next * PLACES + place].copy(mint(place));
                purses[next * PLACES + place].copy(purse(place));
            }
            now = next;
            behind = Math.min(behind + 1, MOST_UNDONE);
            ahead = 0;
        }

        boolean back() {
            if (behind == 0) {
                return false;
            }
            now = (now + STATES - 1) % STATES;
            behind--;
            ahead++;
            return true;
        }

        boolean forth() {
            if (ahead == 0) {
                return false;
            }
            now = (now + 1) % STATES;
            behind++;
            ahead--;
            return true;
        }
    }

    /** The least weight by which steps, taken again and again, lead from rest 0 to each rest of a modulus. */
    private static final class Clock {
        private final int[] weights = new int[MOST_VALUE];
        private int modulus = 1;

        void start(int wanted) {
            modulus = Math.max(1, Math.min(wanted, MOST_VALUE));
            Arrays.fill(weights, UNREACHED);
            weights[0] = 0;
        }

        int modulus() {
            return modulus;
        }

        /** A further step; twice around each of its circles carries the circle's least weight everywhere. */
        void allow(int step, int weight) {
            int circles = greatestCommon(step % modulus, modulus);
            int around = circles > 0 ? 2 * (modulus / circles) : 0;
            for (int from = 0; from < circles; from++) {
                int here = from;
                for (int i = 0; i < around; i++) {
                    int next = (here + step) % modulus;
                    if (weights[here] != UNREACHED && weights[here] + weight < weights[next]) {
                        weights[next] = weights[here] + weight;
                    }
                    here = next;
                }
            }
        }

        int weight(int rest) {
            return rest >= 0 && rest < modulus ? weights[rest] : UNREACHED;
        }
    }

    /** The least sum that coins pay for each rest of a modulus that they pay too: all gaps lie before these. */
    private static final class LeastSums {
        private final Clock clock = new Clock();

        void take(Coins coins, int modulus) {
            clock.start(modulus);
            for (int i = 0; i < coins.count(); i++) {
                clock.allow(coins.value(i), coins.value(i));
            }
        }

        int least(int rest) {
            return clock.weight(rest);
        }

        boolean reaches(int sum) {
            return sum >= 0 && least(sum % clock.modulus()) <= sum;
        }

        /** How many gaps there are, if they have an end. */
        int missing() {
            int gaps = 0;
            for (int r = 0; r < clock.modulus(); r++) {
                gaps += least(r) / clock.modulus();
            }
            return gaps;
        }

        /** The last gap, if they have an end. */
        int lastMissing() {
            int latest = 0;
            for (int r = 0; r < clock.modulus(); r++) {
                latest = Math.max(latest, least(r));
            }
            return latest - clock.modulus();
        }

        /** The i-th gap, of which the caller knows that it is at most the bound. */
        int missingAt(int i, int bound) {
            int low = 0;
            int high = bound;
            for (int step = 0; step < 32 && low < high; step++) {
                int middle = (low + high) / 2;
                if (missingUpTo(middle) > i) {
                    high = middle;
                } else {
                    low = middle + 1;
                }
            }
            return low;
        }

        private int missingUpTo(int sum) {
            int gaps = 0;
            for (int r = 0; r < clock.modulus() && r <= sum; r++) {
                int ofRest = (sum - r) / clock.modulus() + 1;
                gaps += Math.min(ofRest, least(r) / clock.modulus());
            }
            return gaps;
        }
    }

    /** The fewest coins of sums: great ones by their rest, small ones by a table that grows when asked. */
    private static final class Fewest {
        // A sum is paid best with fewer than 300 coins beside the greatest: of as many as the
        // greatest coin is worth, some would make a multiple of it, which fewer of it pay. So the
        // table ends before 300 * 300, and a weight tells their number in its last three digits.
        private static final int LENGTH = MOST_VALUE * MOST_VALUE;
        private static final int UNIT = 1000;

        private final Coins coins = new Coins();
        private final int[] sizes = new int[LENGTH];
        private final Clock wheel = new Clock();
        private int known = 0;
        private boolean turned = false;

        void take(Coins wanted) {
            if (!coins.alike(wanted)) {
                coins.copy(wanted);
                known = 0;
                turned = false;
            }
        }

        int sizeInTable(int sum) {
            if (sum < 0 || sum >= LENGTH) {
                return NONE;
            }
            while (known < sum) {
                known++;
                sizes[known] = sizeByLesser(known);
            }
            return sizes[sum];
        }

        private int sizeByLesser(int sum) {
            int size = NONE;
            for (int i = 0; i < coins.count(); i++) {
                int left = sum - coins.value(i);
                int before = left >= 0 ? sizes[left] : NONE;
                if (before != NONE && (size == NONE || before + 1 < size)) {
                    size = before + 1;
                }
            }
            return size;
        }

        /**
         * Weighs each coin by what it lacks to the greatest, then by one. The greatest coin fills
         * up the sum, so the least lack is the fewest coins, and the fewest beside the greatest
         * coin have it most often.
         */
        private void turn() {
            if (turned) {
                return;
            }
            turned = true;
            wheel.start(coins.greatest());
            for (int i = 0; i < coins.count() - 1; i++) {
                wheel.allow(coins.value(i), weightOf(i));
            }
        }

        private int weightOf(int i) {
            return (coins.greatest() - coins.value(i)) * UNIT + 1;
        }

        private int lack(int rest) {
            return wheel.weight(rest) / UNIT;
        }

        private int beside(int rest) {
            return wheel.weight(rest) % UNIT;
        }

        /** The sum from which on the wheel tells the paying of a rest, UNREACHED if no sum of it is paid. */
        private int wheelFrom(int rest) {
            if (wheel.weight(rest) == UNREACHED) {
                return UNREACHED;
            }
            return beside(rest) * wheel.modulus() - lack(rest);
        }

        long size(long sum) {
            if (sum <= 0 || coins.count() == 0) {
                return sum == 0 ? 0 : NONE;
            }
            turn();
            int rest = (int) (sum % wheel.modulus());
            int from = wheelFrom(rest);
            if (from == UNREACHED) {
                return NONE;
            }
            return sum < from ? sizeInTable((int) sum) : (sum + lack(rest)) / wheel.modulus();
        }

        long often(long sum, int i) {
            long size = size(sum);
            if (size <= 0) {
                return size;
            }
            int rest = (int) (sum % wheel.modulus());
            if (sum < wheelFrom(rest)) {
                return oftenByTable((int) sum, i);
            }
            return i == coins.count() - 1 ? size - beside(rest) : oftenByWheel(rest, i);
        }

        /** Takes each coin as long as the rest is still paid best; so the greatest comes most often. */
        private int oftenByTable(int sum, int wanted) {
            int left = sum;
            int taken = 0;
            for (int i = coins.count() - 1; i >= wanted && i >= 0; i--) {
                taken = 0;
                int value = coins.value(i);
                int most = value > 0 ? left / value : 0;
                while (taken < most && sizeInTable(left - value) + 1 == sizeInTable(left)) {
                    left -= value;
                    taken++;
                }
            }
            return taken;
        }

        private int oftenByWheel(int rest, int wanted) {
            int here = rest;
            int taken = 0;
            for (int i = coins.count() - 2; i >= wanted && i >= 0; i--) {
                taken = 0;
                int before = Math.floorMod(here - coins.value(i), wheel.modulus());
                while (taken < MOST_VALUE && leadsBest(before, here, weightOf(i))) {
                    here = before;
                    before = Math.floorMod(here - coins.value(i), wheel.modulus());
                    taken++;
                }
            }
            return taken;
        }

        private boolean leadsBest(int before, int here, int weight) {
            return wheel.weight(before) != UNREACHED && wheel.weight(before) + weight == wheel.weight(here);
        }

        /** The greatest sum up to which all are paid with so many coins at most. */
        int allUpTo(int most) {
            int sum = 0;
            while (sum < LENGTH - 1) {
                int size = sizeInTable(sum + 1);
                if (size == NONE || size > most) {
                    return sum;
                }
                sum++;
            }
            return sum;
        }

        /** The sizes of all sums from a to b together. */
        long together(int a, int b) {
            if (coins.count() == 0) {
                return b == 0 ? 0 : NONE;
            }
            turn();
            long all = 0;
            for (int first = a; first <= b && first < a + wheel.modulus(); first++) {
                long ofRest = togetherOfRest(first, b);
                if (ofRest == NONE) {
                    return NONE;
                }
                all += ofRest;
            }
            return all;
        }

        /** The same of those that leave the rest of the first one. */
        private long togetherOfRest(int first, int b) {
            int modulus = wheel.modulus();
            int from = wheelFrom(first % modulus);
            long all = 0;
            int sum = first;
            for (; sum <= b && sum < from; sum += modulus) {
                int size = from == UNREACHED ? NONE : sizeInTable(sum);
                if (size == NONE) {
                    return NONE;
                }
                all += size;
            }
            if (sum > b) {
                return all;
            }
            // From here on each next sum of the rest takes one greatest coin more.
            long steps = (b - sum) / modulus;
            return all + (steps + 1) * size(sum) + steps * (steps + 1) / 2;
        }
    }

    /** Picks the needed coins of what it is offered: those that no lesser ones pay. */
    private static final class Needs {
        private final boolean[] offered = new boolean[MOST_VALUE + 1];
        private final boolean[] paid = new boolean[MOST_VALUE + 1];
        private final Coins picked = new Coins();

        Coins picked() {
            return picked;
        }

        void clear() {
            for (int s = 0; s <= MOST_VALUE; s++) {
                offered[s] = false;
            }
        }

        void offer(int sum) {
            if (sum >= 1 && sum <= MOST_VALUE) {
                offered[sum] = true;
            }
        }

        void offerAll(Coins coins) {
            for (int i = 0; i < coins.count(); i++) {
                offer(coins.value(i));
            }
        }

        /** False if more would be needed than a mint can have. */
        boolean pick() {
            picked.clear();
            for (int s = 0; s <= MOST_VALUE; s++) {
                paid[s] = s == 0;
            }
            for (int s = 1; s <= MOST_VALUE; s++) {
                if (offered[s] && !paid[s]) {
                    if (!picked.insert(s)) {
                        return false;
                    }
                    payWith(s);
                }
            }
            return true;
        }

        private void payWith(int value) {
            for (int s = value; s <= MOST_VALUE; s++) {
                paid[s] = paid[s] || paid[s - value];
            }
        }
    }

    /** How many payings sums have by the least coin alone, the two least and so on, told up to a little above the limit. */
    private static final class WaysTable {
        private final Coins coins = new Coins();
        private final long[][] ways = new long[MOST_COINS + 1][MOST_COUNTED + 1];
        private int known = NONE;

        void take(Coins wanted) {
            if (!coins.alike(wanted)) {
                coins.copy(wanted);
                known = NONE;
            }
        }

        long count(int sum) {
            return countBy(coins.count(), sum);
        }

        /** The ways of a sum by so many of the least coins. */
        private long countBy(int kinds, int sum) {
            if (sum < 0 || sum > MOST_COUNTED || kinds < 0 || kinds > MOST_COINS) {
                return 0;
            }
            while (known < sum) {
                known++;
                reckon(known);
            }
            return ways[kinds][sum];
        }

        private void reckon(int sum) {
            ways[0][sum] = sum == 0 ? 1 : 0;
            for (int i = 0; i < coins.count(); i++) {
                int left = sum - coins.value(i);
                long more = left >= 0 ? ways[i + 1][left] : 0;
                // Both are at most the limit and 1, so that they can't wrap around.
                ways[i + 1][sum] = Math.min(ways[i][sum] + more, MOST_WAYS + 1);
            }
        }

        /** Lays the paying of a rank, which is below the ways of the sum, into a purse of these coins. */
        void lay(int sum, long rank, Purse into) {
            int left = sum;
            long behind = rank;
            for (int i = coins.count() - 1; i >= 0; i--) {
                int value = coins.value(i);
                int often = value > 0 ? left / value : 0;
                while (often > 0 && behind >= countBy(i, left - often * value)) {
                    behind -= countBy(i, left - often * value);
                    often--;
                }
                into.set(i, often);
                left -= often * value;
            }
        }

        long rankOf(Purse paying) {
            int left = paying.total();
            long rank = 0;
            for (int i = coins.count() - 1; i >= 0; i--) {
                int value = coins.value(i);
                int most = value > 0 ? left / value : 0;
                for (int often = most; often > paying.often(i); often--) {
                    rank += countBy(i, left - often * value);
                }
                left -= paying.often(i) * value;
            }
            return rank;
        }

        Coins coins() {
            return coins;
        }
    }

    /** All payings of a sum, and how wide the steps must be that lead through them. */
    private static final class Payings {
        private final int[][] counts = new int[MOST_PAYINGS][MOST_COINS];
        private final int[] nearest = new int[MOST_PAYINGS];
        private final boolean[] led = new boolean[MOST_PAYINGS];
        private final Purse one = new Purse();
        private int many = 0;

        void list(WaysTable table, int sum, int ways) {
            many = Math.max(0, Math.min(ways, MOST_PAYINGS));
            one.refit(table.coins());
            for (int rank = 0; rank < many; rank++) {
                table.lay(sum, rank, one);
                for (int i = 0; i < MOST_COINS; i++) {
                    counts[rank][i] = one.often(i);
                }
            }
        }

        /** Leads to the nearest paying each time, as a tree of least steps has also the least widest one. */
        int widestStep() {
            for (int p = 0; p < many; p++) {
                led[p] = p == 0;
                nearest[p] = difference(0, p);
            }
            int widest = 0;
            for (int step = 1; step < many; step++) {
                int next = nearestLeft();
                widest = Math.max(widest, nearest[next]);
                led[next] = true;
                for (int p = 0; p < many; p++) {
                    nearest[p] = Math.min(nearest[p], difference(next, p));
                }
            }
            return widest;
        }

        private int nearestLeft() {
            int found = NONE;
            for (int p = 0; p < many; p++) {
                if (!led[p] && (found == NONE || nearest[p] < nearest[found])) {
                    found = p;
                }
            }
            return Math.max(0, found);
        }

        private int difference(int a, int b) {
            int more = 0;
            int less = 0;
            for (int i = 0; i < MOST_COINS; i++) {
                int by = counts[a][i] - counts[b][i];
                more += Math.max(0, by);
                less += Math.max(0, -by);
            }
            return Math.max(more, less);
        }
    }

    /** The search for the best stamps, coin by coin. */
    private static final class StampSearch {
        private final Coins beginning = new Coins();
        private final Coins found = new Coins();
        private final int[] nexts = new int[MOST_SEARCHED + 1];
        private final int[] limits = new int[MOST_SEARCHED + 1];
        private int foundReach = 0;
        private int looked = 0;

        int looked() {
            return looked;
        }

        Coins found() {
            return found;
        }

        int foundReach() {
            return foundReach;
        }

        /** False if there would be too many cases. */
        boolean run(int k, int h, Fewest fewest) {
            beginning.clear();
            found.clear();
            foundReach = 0;
            looked = 0;
            nexts[0] = 1;
            limits[0] = 1;
            // Each case comes once and goes once.
            for (int turn = 0; turn <= 2 * MOST_CASES; turn++) {
                int depth = beginning.count();
                if (depth < k && nexts[depth] <= limits[depth]) {
                    if (looked == MOST_CASES) {
                        return false;
                    }
                    lookAt(depth, k, h, fewest);
                } else if (depth > 0) {
                    beginning.remove(beginning.greatest());
                } else {
                    return true;
                }
            }
            return true;
        }

        private void lookAt(int depth, int k, int h, Fewest fewest) {
            int coin = nexts[depth];
            nexts[depth]++;
            looked++;
            beginning.insert(coin);
            fewest.take(beginning);
            int reach = fewest.allUpTo(h);
            nexts[depth + 1] = coin + 1;
            limits[depth + 1] = Math.min(reach + 1, MOST_VALUE);
            if (depth + 1 == k && reach > foundReach) {
                found.copy(beginning);
                foundReach = reach;
            }
        }
    }

    /**
     * The told paying of each sum of a purse, as one number: WHOLE for each coin, less its often as
     * a digit of base 21, the greatest coin foremost. The least number has the fewest coins, and of
     * these the greatest most often.
     */
    private static final class PurseTable {
        private static final int BASE = MOST_OF_ONE + 1;
        // 21 to the 12th; some 480 of them still fit a long.
        private static final long WHOLE = 7_355_827_511_386_641L;

        private final Purse purse = new Purse();
        private final long[] keys = new long[MOST_IN_PURSE + 1];
        private int total = 0;

        void take(Purse wanted) {
            if (purse.alike(wanted)) {
                return;
            }
            purse.copy(wanted);
            Arrays.fill(keys, UNPAID);
            keys[0] = 0;
            total = 0;
            long digit = 1;
            for (int i = 0; i < purse.coins().count(); i++) {
                allowAll(purse.often(i), purse.coins().value(i), WHOLE - digit);
                digit *= BASE;
            }
        }

        /** Heaps of 1, 2, 4 .. and what is left make each number up to all, with few passes. */
        private void allowAll(int many, int value, long key) {
            int left = many;
            for (int heap = 1; left > 0 && heap <= MOST_OF_ONE; heap *= 2) {
                int taken = Math.min(heap, left);
                allow(taken * value, taken * key);
                left -= taken;
            }
        }

        private void allow(int sum, long key) {
            if (sum < 0 || total + sum > MOST_IN_PURSE) {
                return;
            }
            total += sum;
            for (int s = total; s >= sum; s--) {
                long before = keys[s - sum];
                if (before != UNPAID && before + key < keys[s]) {
                    keys[s] = before + key;
                }
            }
        }

        private long key(int sum) {
            return sum >= 0 && sum <= total ? keys[sum] : UNPAID;
        }

        int size(int sum) {
            long key = key(sum);
            return key == UNPAID ? NONE : (int) ((key + WHOLE - 1) / WHOLE);
        }

        int unpaid() {
            int sums = 0;
            for (int s = 0; s <= total; s++) {
                if (keys[s] == UNPAID) {
                    sums++;
                }
            }
            return sums;
        }

        /** What comes back from the taker when this purse pays s and the fewest move: NONE if it can't. */
        int backFrom(PurseTable taker, int s) {
            int found = NONE;
            long least = UNPAID;
            for (int back = 0; back <= taker.total && s <= total - back; back++) {
                long given = key(s + back);
                int returned = taker.size(back);
                // Of as many coins in all, the payer's own number tells who has the greatest most often.
                if (given != UNPAID && returned != NONE && given + returned * WHOLE < least) {
                    least = given + returned * WHOLE;
                    found = back;
                }
            }
            return found;
        }

        /** Moves the told paying of a sum: false if a purse can't hold the values or as many of one. */
        boolean move(int sum, Purse from, Purse to) {
            long digits = size(sum) * WHOLE - key(sum);
            for (int i = 0; i < purse.coins().count(); i++) {
                int often = (int) (digits % BASE);
                digits /= BASE;
                int value = purse.coins().value(i);
                if (often > 0 && !(from.alter(value, -often) && to.alter(value, often))) {
                    return false;
                }
            }
            return true;
        }
    }
}
