/**
 * Rounds of a postman: streets of kinds between corners, each to be walked at least once
 * with as little as can be walked again. What every call answers is told in DOC.md.
 */
public final class PostmanRounds {
    private static final int CORNERS = 6;
    private static final int STREETS = 8;
    private static final int SETS = 1 << STREETS;
    private static final int LONGEST = 99;
    private static final int KINDS = 6;
    private static final int FIGURES = 10;
    private static final int LETTERS = 96;
    private static final int ROW = 32;
    private static final int POSTMEN = 3;
    private static final int LOSABLE = 63;
    private static final int DEAREST = 9999;
    // Between two streets that are new at most five steps lie: 8 + 9 * 5 steps at most.
    private static final int STEPS = 64;
    // 8 streets and 3 ways of 5 steps at most make 24 corners.
    private static final int SPLICES = 32;

    private static final int NONE = -9;
    // Above every cost; three of these together still fit an int.
    private static final int FAR = 1000000;

    private static final int NOBODY = -1;
    private static final int OTHER = -2;
    private static final int STATE = -3;
    private static final int BELOW = -4;
    private static final int ROOM = -6;
    private static final int SIGNED_REFUSAL = -100000;
    private static final long LONG_REFUSAL = 4000000000000000000L;

    private static final int BITS_OF_NAN = 0x7fc00000;
    private static final int BITS_OF_INFINITY = 0x7f800000;
    private static final int BITS_OF_MINUS_INFINITY = 0xff800000;
    private static final int BITS_OF_MINUS_ONE = 0xbf800000;

    private final Town now = new Town();
    private final Town trial = new Town();
    private final Town kept = new Town();
    private boolean isKept = false;
    private final Ways ways = new Ways();
    private final Tour tour = new Tour();
    private final Pairs pairs = new Pairs();
    private final Splice splice = new Splice();
    private final Flow flows = new Flow();
    private final Deal deal = new Deal();
    private final Reader reader = new Reader();
    private final int[] told = new int[ROW];
    private int tellings = 0;
    private final int[] refusals = new int[7];

    public PostmanRounds() {
    }

    // ---- the map ----

    public int letter(int c) {
        if (c < 0) {
            return refuse(BELOW);
        }
        if (c > 255 || reader.size >= LETTERS) {
            return refuse(ROOM);
        }
        reader.take(c);
        return reader.size;
    }

    public int map() {
        int answer = readMap();
        reader.forget();
        return answer;
    }

    private int readMap() {
        int place = reader.faultOfForm();
        if (place >= 0) {
            return -1000 - place;
        }
        trial.takeOver(now);
        place = reader.build(trial);
        if (place >= 0) {
            return -2000 - place;
        }
        now.takeOver(trial);
        return reader.statements;
    }

    public int streets(int from, int to, int length) {
        if (!isCorner(from) || !isCorner(to)) {
            return refuse(NOBODY);
        }
        if (from == to) {
            return refuse(STATE);
        }
        if (length < 1) {
            return refuse(BELOW);
        }
        if (length > LONGEST || now.size >= STREETS) {
            return refuse(ROOM);
        }
        now.add(from, to, length);
        return now.size - 1;
    }

    public int turns(int street) {
        if (!now.has(street)) {
            return refuse(NOBODY);
        }
        now.openOrClose(street);
        return now.isOpen(street) ? 1 : 0;
    }

    public int length(int street, int length) {
        if (!now.has(street)) {
            return refuse(NOBODY);
        }
        if (length < 1) {
            return refuse(BELOW);
        }
        if (length > LONGEST) {
            return refuse(ROOM);
        }
        int old = now.lengths[street];
        now.lengths[street] = length;
        return old;
    }

    public int kind(int street, int kind, int figure) {
        if (!now.has(street)) {
            return refuse(NOBODY);
        }
        if (kind < 0 || kind >= KINDS) {
            return refuse(OTHER);
        }
        if (figure < 0) {
            return refuse(BELOW);
        }
        if (figure >= FIGURES) {
            return refuse(ROOM);
        }
        int old = 10 * now.kinds[street] + now.figures[street];
        now.kinds[street] = kind;
        now.figures[street] = figure;
        return old;
    }

    public int home(int corner) {
        if (!isCorner(corner)) {
            return refuse(NOBODY);
        }
        int old = now.home;
        now.home = corner;
        return old;
    }

    // ---- what there is ----

    public int street(int street, int what) {
        if (!now.has(street)) {
            return refuse(NOBODY);
        }
        switch (what) {
            case 0: return now.froms[street];
            case 1: return now.tos[street];
            case 2: return now.lengths[street];
            case 3: return now.kinds[street];
            case 4: return now.figures[street];
            case 5: return now.isOpen(street) ? 1 : 0;
            case 6: return orNone(now.costOn(street));
            case 7: return orNone(now.costBack(street));
            default: return refuse(OTHER);
        }
    }

    public int corner(int corner, int what) {
        if (!isCorner(corner)) {
            return refuse(NOBODY);
        }
        switch (what) {
            case 0: return now.degree(corner);
            case 1: return now.streetsAt(corner);
            case 2: return cornersFrom(corner);
            default: return refuse(OTHER);
        }
    }

    private int cornersFrom(int corner) {
        ways.learn(now, false);
        int bits = 0;
        for (int to = 0; to < CORNERS; to++) {
            if (ways.between(corner, to) < FAR) {
                bits |= 1 << to;
            }
        }
        return bits;
    }

    public int distance(int from, int to) {
        if (!isCorner(from) || !isCorner(to)) {
            return refuse(NOBODY);
        }
        ways.learn(now, false);
        return orNone(ways.between(from, to));
    }

    public int next(int from, int to) {
        if (!isCorner(from) || !isCorner(to)) {
            return refuse(NOBODY);
        }
        ways.learn(now, false);
        int street = ways.firstOf(from, to);
        if (street < 0) {
            return NONE;
        }
        return 2 * street + (now.froms[street] == from ? 0 : 1);
    }

    // ---- the round ----

    public int round(int what) {
        if (what < 0 || what > 3) {
            return refuse(OTHER);
        }
        tour.seek(now);
        if (!tour.isFound()) {
            return NONE;
        }
        switch (what) {
            case 0: return tour.cost();
            case 1: return tour.size;
            case 2: return tour.stepsAgain();
            default: return tour.costAgain();
        }
    }

    public int step(int i, int what) {
        tour.seek(now);
        if (i < 0 || i >= tour.size) {
            return refuse(NOBODY);
        }
        switch (what) {
            case 0: return tour.streets[i];
            case 1: return now.froms[tour.streets[i]] == tour.corners[i] ? 0 : 1;
            case 2: return tour.corners[i + 1];
            case 3: return tour.again[i] ? 1 : 0;
            case 4: return tour.costs[i];
            default: return refuse(OTHER);
        }
    }

    public int time(int num, int den) {
        tour.seek(now);
        return tour.isFound() ? bitsOfTime(num, den) : BITS_OF_MINUS_ONE;
    }

    public int rank(int num, int den, int num2, int den2) {
        tour.seek(now);
        if (!tour.isFound()) {
            return SIGNED_REFUSAL + refuse(STATE);
        }
        return Integer.compare(inOrder(bitsOfTime(num, den)), inOrder(bitsOfTime(num2, den2)));
    }

    // A pace that is 0, endless or no number is answered without the floats that it would make.
    private int bitsOfTime(int num, int den) {
        if (tour.size == 0) {
            return 0;
        }
        if (den == 0) {
            return num == 0 ? BITS_OF_NAN : 0;
        }
        if (num == 0) {
            return den > 0 ? BITS_OF_INFINITY : BITS_OF_MINUS_INFINITY;
        }
        float pace = (float) num / (float) den;
        float total = 0.0f;
        for (int i = 0; i < tour.size; i++) {
            total = total + (float) tour.costs[i] / pace;
        }
        return bitsOfFloat(total);
    }

    // Below 0 the bits of floats grow as the floats fall; with this they are ranked as ints.
    private static int inOrder(int bits) {
        return bits >= 0 ? bits : bits ^ 0x7fffffff;
    }

    // Times lie between 2 to the -31 and 2 to the 45, so there is always a leading bit.
    private static int bitsOfFloat(float number) {
        float size = number < 0.0f ? -number : number;
        int exponent = 127 + 23;
        for (int i = 0; i < 200 && size < 8388608.0f; i++) {
            size = size * 2.0f;
            exponent--;
        }
        for (int i = 0; i < 200 && size >= 16777216.0f; i++) {
            size = size / 2.0f;
            exponent++;
        }
        int bits = (exponent << 23) | ((int) size & 0x7fffff);
        return number < 0.0f ? bits | 0x80000000 : bits;
    }

    public long mean() {
        double sum = 0.0;
        int many = 0;
        for (int street = 0; street < now.size; street++) {
            if (now.isOpen(street)) {
                sum = sum + (double) now.lengths[street];
                many++;
            }
        }
        return many == 0 ? 0L : bitsOfDouble(sum / (double) many);
    }

    // A mean is 1 at least, so there is always a leading bit.
    private static long bitsOfDouble(double number) {
        double size = number;
        long exponent = 1023 + 52;
        for (int i = 0; i < 100 && size < 4503599627370496.0; i++) {
            size = size * 2.0;
            exponent--;
        }
        return (exponent << 52) | ((long) size & 0xfffffffffffffL);
    }

    // ---- odd corners, balances, flows ----

    public int odd() {
        return now.oddCorners();
    }

    public int matched(int corner) {
        if (!isCorner(corner)) {
            return refuse(NOBODY);
        }
        seekPairs();
        return pairs.partnerOf(corner);
    }

    public int matching() {
        seekPairs();
        return orNone(pairs.least);
    }

    private void seekPairs() {
        ways.learn(now, false);
        pairs.seek(ways, now.oddCorners());
    }

    public int spliced(int i) {
        if (i < -1) {
            return refuse(BELOW);
        }
        seekPairs();
        if (pairs.least >= FAR) {
            return NONE;
        }
        splice.seek(ways, pairs);
        if (i == -1) {
            return splice.size;
        }
        return i < splice.size ? splice.corners[i] : NONE;
    }

    public int balance(int corner) {
        if (!isCorner(corner)) {
            return SIGNED_REFUSAL + refuse(NOBODY);
        }
        return now.balanceOf(corner);
    }

    public int flow() {
        ways.learn(now, false);
        return orNone(flows.seek(ways));
    }

    // ---- other rounds ----

    public int loose(int what) {
        if (what != 0 && what != 1) {
            return refuse(OTHER);
        }
        int end = tour.looseEnd(now);
        if (end < 0) {
            return NONE;
        }
        return what == 0 ? tour.looseCost(end) : end;
    }

    public int without(int street) {
        if (!now.has(street)) {
            return refuse(NOBODY);
        }
        return orNone(costWithout(street));
    }

    private int costWithout(int street) {
        trial.takeOver(now);
        trial.close(1 << street);
        return costOfTrial();
    }

    private int costOfTrial() {
        tour.seek(trial);
        return tour.cost();
    }

    public int turned(int street) {
        if (!now.has(street)) {
            return refuse(NOBODY);
        }
        trial.takeOver(now);
        trial.turnRound(street);
        return orNone(costOfTrial());
    }

    public int worst() {
        int worst = NONE;
        int greatest = -1;
        for (int street = 0; street < now.size; street++) {
            if (now.isDue(street)) {
                int cost = costWithout(street);
                int weight = cost >= FAR ? DEAREST + 1 : cost;
                if (weight > greatest) {
                    greatest = weight;
                    worst = street;
                }
            }
        }
        return worst;
    }

    public int shared(int n, int what) {
        if (n < 1) {
            return refuse(BELOW);
        }
        if (n > POSTMEN) {
            return refuse(ROOM);
        }
        if (what < 0 || what > 2) {
            return refuse(OTHER);
        }
        tour.seek(now);
        deal.seek(tour, n);
        if (!deal.isFound) {
            return NONE;
        }
        switch (what) {
            case 0: return deal.greatest;
            case 1: return deal.together;
            default: return deal.busy;
        }
    }

    public int dealt(int n, int street) {
        if (n < 1) {
            return refuse(BELOW);
        }
        if (n > POSTMEN) {
            return refuse(ROOM);
        }
        if (!now.has(street)) {
            return refuse(NOBODY);
        }
        if (!now.isDue(street)) {
            return NONE;
        }
        tour.seek(now);
        deal.seek(tour, n);
        return deal.isFound ? deal.best[street] : NONE;
    }

    // ---- odds ----

    public long lost(int n, int t, int part) {
        if (n < 0 || t < 2) {
            return LONG_REFUSAL - refuse(BELOW);
        }
        if (n > DEAREST || t > 20) {
            return LONG_REFUSAL - refuse(ROOM);
        }
        if (part != 0 && part != 1) {
            return LONG_REFUSAL - refuse(OTHER);
        }
        int losable = now.openStreets() & LOSABLE;
        long good = goodOdds(losable, n, t);
        if (good == 0) {
            return part;
        }
        long all = power(t, Integer.bitCount(losable));
        long divisor = commonDivisor(good, all);
        return (part == 0 ? good : all) / (divisor < 1 ? 1 : divisor);
    }

    // In parts of t to the number of losable streets.
    private long goodOdds(int losable, int n, int t) {
        long good = 0;
        for (int gone = 0; gone <= LOSABLE; gone++) {
            if ((gone & ~losable) == 0) {
                trial.takeOver(now);
                trial.close(gone);
                if (costOfTrial() <= n) {
                    good += power(t - 1, Integer.bitCount(losable & ~gone));
                }
            }
        }
        return good;
    }

    private static long power(long base, int exponent) {
        long power = 1;
        for (int i = 0; i < exponent; i++) {
            power *= base;
        }
        return power;
    }

    private static long commonDivisor(long a, long b) {
        long divisor = a;
        long rest = b;
        for (int i = 0; i < 200 && rest != 0; i++) {
            long less = divisor % rest;
            divisor = rest;
            rest = less;
        }
        return divisor;
    }

    // ---- the row ----

    public int whatIs(int street, int what) {
        if (!now.has(street)) {
            return refuse(NOBODY);
        }
        if (what != 0 && what != 1) {
            return refuse(OTHER);
        }
        int bits = 0;
        int many = what == 0 ? KINDS : FIGURES;
        for (int guess = 0; guess < many; guess++) {
            if (beginsSo(street, what, guess)) {
                bits |= 1 << guess;
            }
        }
        return bits;
    }

    private boolean beginsSo(int street, int what, int guess) {
        trial.takeOver(now);
        if (what == 0) {
            trial.kinds[street] = guess;
        } else {
            trial.figures[street] = guess;
        }
        tour.seek(trial);
        return tour.isFound() && sameCorners() == tellings;
    }

    // How many numbers of the row, from its first on, are the round's corners.
    private int sameCorners() {
        int same = 0;
        while (same < tellings && same < tour.cornersToTell() && told[same] == tour.corners[same]) {
            same++;
        }
        return same;
    }

    public int row(int v) {
        if (v < 0) {
            return refuse(BELOW);
        }
        if (v > 9 || tellings >= ROW) {
            return refuse(ROOM);
        }
        told[tellings] = v;
        tellings++;
        return tellings;
    }

    public int judge() {
        tour.seek(now);
        int same = sameCorners();
        boolean isWhole = same == tellings && same == tour.cornersToTell();
        tellings = 0;
        return isWhole ? NONE : same;
    }

    public int clear() {
        int had = tellings;
        tellings = 0;
        return had;
    }

    // ---- lots, the image, counts ----

    public int lots(int n, int z, int what) {
        if (n < 1) {
            return refuse(BELOW);
        }
        if (n > 20) {
            return refuse(ROOM);
        }
        if (what != 0 && what != 1) {
            return refuse(OTHER);
        }
        int seed = z;
        int many = 0;
        int together = 0;
        trial.takeOver(now);
        for (int i = 0; i < n; i++) {
            seed = drawLengths(seed);
            int cost = costOfTrial();
            if (cost < FAR) {
                many++;
                together += cost;
            }
        }
        return what == 0 ? many : together;
    }

    private int drawLengths(int z) {
        int seed = z;
        for (int street = 0; street < trial.size; street++) {
            seed = seed * 1664525 + 1013904223;
            trial.lengths[street] = 1 + (seed & 0x7fffffff) / 256 % LONGEST;
        }
        return seed;
    }

    public int image() {
        kept.takeOver(now);
        isKept = true;
        return kept.size;
    }

    public int on() {
        if (!isKept) {
            return refuse(STATE);
        }
        now.takeOver(kept);
        return now.size;
    }

    public int count(int what) {
        switch (what) {
            case 0: return now.size;
            case 1: return now.openStreets();
            case 2: return now.dueStreets();
            case 3: return now.lengthsTogether();
            case 4: return now.home;
            case 5: return tellings;
            case 6: return reader.size;
            default: return what >= 11 && what <= 16 ? refusals[what - 10] : NONE;
        }
    }

    // ---- small helps ----

    private int refuse(int number) {
        int place = -number;
        if (place > 0 && place < refusals.length) {
            refusals[place]++;
        }
        return number;
    }

    private static int orNone(int cost) {
        return cost >= FAR ? NONE : cost;
    }

    private static boolean isCorner(int corner) {
        return corner >= 0 && corner < CORNERS;
    }

    /** The kinds of streets, by their numbers: what walking one costs, and whether it must be walked. */
    private enum Kind {
        BOTH(1, 0, 0, true, true),
        ONEWAY(1, 0, 0, false, true),
        STEEP(1, 0, 1, true, true),
        TOLL(1, 1, 0, false, true),
        SLOW(2, 0, 1, true, true),
        PARK(1, 0, 0, true, false);

        private static final Kind[] ALL = values();

        private final int times;
        private final int figuresOn;
        private final int figuresBack;
        private final boolean isBothWays;
        private final boolean isToWalk;

        Kind(int times, int figuresOn, int figuresBack, boolean isBothWays, boolean isToWalk) {
            this.times = times;
            this.figuresOn = figuresOn;
            this.figuresBack = figuresBack;
            this.isBothWays = isBothWays;
            this.isToWalk = isToWalk;
        }

        static Kind of(int number) {
            return number >= 0 && number < ALL.length ? ALL[number] : BOTH;
        }

        int costOn(int length, int figure) {
            return times * (length + figuresOn * figure);
        }

        int costBack(int length, int figure) {
            return isBothWays ? times * (length + figuresBack * figure) : FAR;
        }
    }

    /** Streets and the home: all that an image keeps. */
    private static final class Town {
        final int[] froms = new int[STREETS];
        final int[] tos = new int[STREETS];
        final int[] lengths = new int[STREETS];
        final int[] kinds = new int[STREETS];
        final int[] figures = new int[STREETS];
        int closed = 0;
        int size = 0;
        int home = 0;

        void takeOver(Town other) {
            System.arraycopy(other.froms, 0, froms, 0, STREETS);
            System.arraycopy(other.tos, 0, tos, 0, STREETS);
            System.arraycopy(other.lengths, 0, lengths, 0, STREETS);
            System.arraycopy(other.kinds, 0, kinds, 0, STREETS);
            System.arraycopy(other.figures, 0, figures, 0, STREETS);
            closed = other.closed;
            size = other.size;
            home = other.home;
        }

        boolean isLike(Town other) {
            boolean alike = size == other.size && home == other.home && closed == other.closed;
            for (int street = 0; street < size && alike; street++) {
                alike = froms[street] == other.froms[street] && tos[street] == other.tos[street]
                        && lengths[street] == other.lengths[street]
                        && kinds[street] == other.kinds[street]
                        && figures[street] == other.figures[street];
            }
            return alike;
        }

        boolean has(int street) {
            return street >= 0 && street < size;
        }

        boolean hasRoom() {
            return size < STREETS;
        }

        void add(int from, int to, int length) {
            if (hasRoom()) {
                froms[size] = from;
                tos[size] = to;
                lengths[size] = length;
                kinds[size] = 0;
                figures[size] = 0;
                closed &= ~(1 << size);
                size++;
            }
        }

        void openOrClose(int street) {
            closed ^= 1 << street;
        }

        void close(int bits) {
            closed |= bits;
        }

        void turnRound(int street) {
            int from = froms[street];
            froms[street] = tos[street];
            tos[street] = from;
        }

        boolean isOpen(int street) {
            return (closed >> street & 1) == 0;
        }

        boolean isDue(int street) {
            return isOpen(street) && Kind.of(kinds[street]).isToWalk;
        }

        int costOn(int street) {
            return isOpen(street) ? Kind.of(kinds[street]).costOn(lengths[street], figures[street]) : FAR;
        }

        int costBack(int street) {
            return isOpen(street) ? Kind.of(kinds[street]).costBack(lengths[street], figures[street]) : FAR;
        }

        boolean touches(int street, int corner) {
            return froms[street] == corner || tos[street] == corner;
        }

        int otherEnd(int street, int corner) {
            return froms[street] == corner ? tos[street] : froms[street];
        }

        int openStreets() {
            return ((1 << size) - 1) & ~closed;
        }

        int dueStreets() {
            int bits = 0;
            for (int street = 0; street < size; street++) {
                if (isDue(street)) {
                    bits |= 1 << street;
                }
            }
            return bits;
        }

        int lengthsTogether() {
            int together = 0;
            for (int street = 0; street < size; street++) {
                together += lengths[street];
            }
            return together;
        }

        int streetsAt(int corner) {
            int bits = 0;
            for (int street = 0; street < size; street++) {
                if (touches(street, corner)) {
                    bits |= 1 << street;
                }
            }
            return bits;
        }

        int degree(int corner) {
            return Integer.bitCount(streetsAt(corner) & dueStreets());
        }

        int oddCorners() {
            int bits = 0;
            for (int corner = 0; corner < CORNERS; corner++) {
                bits |= (degree(corner) & 1) << corner;
            }
            return bits;
        }

        int balanceOf(int corner) {
            int balance = 0;
            for (int street = 0; street < size; street++) {
                if (isDue(street) && !Kind.of(kinds[street]).isBothWays) {
                    balance += froms[street] == corner ? 1 : 0;
                    balance -= tos[street] == corner ? 1 : 0;
                }
            }
            return balance;
        }
    }

    /** Distances in a town, and the first streets of least ways. */
    private static final class Ways {
        final Town town = new Town();
        final int[] on = new int[STREETS];
        final int[] back = new int[STREETS];
        final int[] least = new int[CORNERS * CORNERS];

        /** Backward: as if every step were walked from its end to its beginning. */
        void learn(Town source, boolean isBackward) {
            town.takeOver(source);
            for (int street = 0; street < town.size; street++) {
                on[street] = isBackward ? town.costBack(street) : town.costOn(street);
                back[street] = isBackward ? town.costOn(street) : town.costBack(street);
            }
            measure();
        }

        private void measure() {
            for (int i = 0; i < least.length; i++) {
                least[i] = i % (CORNERS + 1) == 0 ? 0 : FAR;
            }
            for (int street = 0; street < town.size; street++) {
                shorten(town.froms[street], town.tos[street], on[street]);
                shorten(town.tos[street], town.froms[street], back[street]);
            }
            for (int by = 0; by < CORNERS; by++) {
                for (int from = 0; from < CORNERS; from++) {
                    for (int to = 0; to < CORNERS; to++) {
                        shorten(from, to, between(from, by) + between(by, to));
                    }
                }
            }
        }

        private void shorten(int from, int to, int cost) {
            int place = from * CORNERS + to;
            if (cost < least[place]) {
                least[place] = cost;
            }
        }

        int between(int from, int to) {
            return least[from * CORNERS + to];
        }

        int costFrom(int street, int corner) {
            if (town.froms[street] == corner) {
                return on[street];
            }
            return town.tos[street] == corner ? back[street] : FAR;
        }

        /** The least street with which a least way begins, or NONE. */
        int firstOf(int from, int to) {
            int whole = between(from, to);
            if (from == to || whole >= FAR) {
                return NONE;
            }
            for (int street = 0; street < town.size; street++) {
                int cost = costFrom(street, from);
                if (cost < FAR && cost + between(town.otherEnd(street, from), to) == whole) {
                    return street;
                }
            }
            return NONE;
        }
    }

    /** The round of a town: for each set of streets and each corner, the least cost of walking them and coming home. */
    private static final class Tour {
        final Ways ways = new Ways();
        private final int[] costLeft = new int[SETS * CORNERS];
        private final int[] costFirst = new int[CORNERS];
        private boolean isSought = false;
        int due = 0;
        int size = 0;
        final int[] streets = new int[STEPS];
        final int[] corners = new int[STEPS + 1];
        final int[] costs = new int[STEPS];
        final boolean[] again = new boolean[STEPS];

        void seek(Town town) {
            if (isSought && ways.town.isLike(town)) {
                return;
            }
            ways.learn(town, false);
            measure();
            trace();
            isSought = true;
        }

        boolean isFound() {
            return cost() < FAR;
        }

        int cost() {
            return costLeft[due * CORNERS + ways.town.home];
        }

        /** What a postman walks who has at least these streets to walk. */
        int costOfSet(int set) {
            return costLeft[set * CORNERS + ways.town.home];
        }

        int cornersToTell() {
            return isFound() ? size + 1 : 0;
        }

        int stepsAgain() {
            int many = 0;
            for (int i = 0; i < size; i++) {
                many += again[i] ? 1 : 0;
            }
            return many;
        }

        int costAgain() {
            int together = 0;
            for (int i = 0; i < size; i++) {
                together += again[i] ? costs[i] : 0;
            }
            return together;
        }

        /** The least corner where a least way from home may end, or NONE. */
        int looseEnd(Town town) {
            isSought = false;
            // Told backward, a way that begins at home ends there, as those that are measured do.
            ways.learn(town, true);
            measure();
            int end = NONE;
            int best = FAR;
            for (int corner = 0; corner < CORNERS; corner++) {
                if (looseCost(corner) < best) {
                    best = looseCost(corner);
                    end = corner;
                }
            }
            return end;
        }

        int looseCost(int end) {
            return costLeft[due * CORNERS + end];
        }

        private void measure() {
            due = ways.town.dueStreets();
            for (int corner = 0; corner < CORNERS; corner++) {
                costLeft[corner] = ways.between(corner, ways.town.home);
            }
            // A set less one of its streets is a lesser number, so it has been measured.
            for (int set = 1; set <= due; set++) {
                if ((set & ~due) == 0) {
                    measureFirst(set);
                    measureSet(set);
                }
            }
        }

        /** By corner: the least cost that is left, if a street of the set is walked from there at once. */
        private void measureFirst(int set) {
            for (int corner = 0; corner < CORNERS; corner++) {
                costFirst[corner] = FAR;
            }
            for (int street = 0; street < ways.town.size; street++) {
                if ((set >> street & 1) != 0) {
                    int rest = (set & ~(1 << street)) * CORNERS;
                    int from = ways.town.froms[street];
                    int to = ways.town.tos[street];
                    costFirst[from] = Math.min(costFirst[from], ways.on[street] + costLeft[rest + to]);
                    costFirst[to] = Math.min(costFirst[to], ways.back[street] + costLeft[rest + from]);
                }
            }
        }

        private void measureSet(int set) {
            // The innermost loop of all that is sought: it reads the row of distances itself.
            int[] least = ways.least;
            for (int corner = 0; corner < CORNERS; corner++) {
                int best = FAR;
                for (int first = 0; first < CORNERS; first++) {
                    int cost = least[corner * CORNERS + first] + costFirst[first];
                    if (cost < best) {
                        best = cost;
                    }
                }
                costLeft[set * CORNERS + corner] = best;
            }
        }

        private void trace() {
            int at = ways.town.home;
            int left = due;
            size = 0;
            corners[0] = at;
            if (!isFound()) {
                return;
            }
            while (size < STEPS && (left != 0 || at != ways.town.home)) {
                int street = leastStreet(at, left);
                if (street < 0) {
                    return;
                }
                streets[size] = street;
                costs[size] = ways.costFrom(street, at);
                again[size] = (left >> street & 1) == 0;
                at = ways.town.otherEnd(street, at);
                left &= ~(1 << street);
                size++;
                corners[size] = at;
            }
        }

        /** The least street by which a least way may go on. */
        private int leastStreet(int at, int left) {
            int whole = costLeft[left * CORNERS + at];
            for (int street = 0; street < ways.town.size; street++) {
                int cost = ways.costFrom(street, at);
                int rest = (left & ~(1 << street)) * CORNERS;
                if (cost < FAR && cost + costLeft[rest + ways.town.otherEnd(street, at)] == whole) {
                    return street;
                }
            }
            return NONE;
        }
    }

    /** Odd corners matched by twos. */
    private static final class Pairs {
        private final int[] tried = new int[CORNERS];
        private final int[] partners = new int[CORNERS];
        int least = FAR;

        void seek(Ways ways, int corners) {
            least = FAR;
            for (int corner = 0; corner < CORNERS; corner++) {
                tried[corner] = NONE;
                partners[corner] = NONE;
            }
            pair(ways, corners, 0);
        }

        int partnerOf(int corner) {
            return partners[corner];
        }

        // Partners are tried in their order, so only what is less may take the place of an earlier one.
        private void pair(Ways ways, int left, int sum) {
            if (sum >= least) {
                return;
            }
            if (left == 0) {
                least = sum;
                System.arraycopy(tried, 0, partners, 0, CORNERS);
                return;
            }
            int first = 0;
            while (first < CORNERS && (left >> first & 1) == 0) {
                first++;
            }
            for (int second = first + 1; second < CORNERS; second++) {
                if ((left >> second & 1) != 0) {
                    tried[first] = second;
                    tried[second] = first;
                    pair(ways, left & ~(1 << first) & ~(1 << second), sum + ways.between(first, second));
                }
            }
        }
    }

    /** Walks spliced together to one. */
    private static final class Splice {
        private final int[] left = new int[STREETS];
        private final int[] part = new int[SPLICES];
        private int partSize = 0;
        final int[] corners = new int[SPLICES];
        int size = 0;

        void seek(Ways ways, Pairs pairs) {
            lay(ways, pairs);
            size = 1;
            corners[0] = ways.town.home;
            int place = 0;
            for (int i = 0; i < SPLICES && place >= 0; i++) {
                walk(ways.town, corners[place]);
                putIn(place);
                place = firstLeft(ways.town);
            }
        }

        private void lay(Ways ways, Pairs pairs) {
            for (int street = 0; street < STREETS; street++) {
                left[street] = street < ways.town.size && ways.town.isDue(street) ? 1 : 0;
            }
            for (int corner = 0; corner < CORNERS; corner++) {
                if (pairs.partnerOf(corner) > corner) {
                    layWay(ways, corner, pairs.partnerOf(corner));
                }
            }
        }

        private void layWay(Ways ways, int from, int to) {
            int at = from;
            for (int i = 0; i < CORNERS && at != to; i++) {
                int street = ways.firstOf(at, to);
                if (street < 0) {
                    return;
                }
                left[street]++;
                at = ways.town.otherEnd(street, at);
            }
        }

        private int leastLeft(Town town, int corner) {
            for (int street = 0; street < town.size; street++) {
                if (left[street] > 0 && town.touches(street, corner)) {
                    return street;
                }
            }
            return NONE;
        }

        private void walk(Town town, int from) {
            int at = from;
            int street = leastLeft(town, at);
            partSize = 0;
            while (street >= 0 && partSize < SPLICES) {
                left[street]--;
                at = town.otherEnd(street, at);
                part[partSize] = at;
                partSize++;
                street = leastLeft(town, at);
            }
        }

        private void putIn(int place) {
            if (size + partSize > SPLICES) {
                return;
            }
            int behind = size - place - 1;
            System.arraycopy(corners, place + 1, corners, place + 1 + partSize, behind);
            System.arraycopy(part, 0, corners, place + 1, partSize);
            size += partSize;
        }

        private int firstLeft(Town town) {
            for (int i = 0; i < size; i++) {
                if (leastLeft(town, corners[i]) >= 0) {
                    return i;
                }
            }
            return NONE;
        }
    }

    /** Least ways by which corners are balanced. */
    private static final class Flow {
        private final int[] givers = new int[STREETS];
        private final int[] takers = new int[STREETS];
        private final int[] least = new int[SETS];

        /** The least distances together, FAR or more if it can't be. */
        int seek(Ways ways) {
            int many = list(ways.town, givers, -1);
            list(ways.town, takers, 1);
            // Givers come one by one; a set tells which takers have theirs.
            for (int set = 1; set < 1 << many; set++) {
                least[set] = leastOf(ways, set);
            }
            return least[(1 << many) - 1];
        }

        // Each corner as often as it is from 0 on the side of the sign.
        private static int list(Town town, int[] units, int sign) {
            int many = 0;
            for (int corner = 0; corner < CORNERS; corner++) {
                int often = sign * town.balanceOf(corner);
                for (int i = 0; i < often && many < units.length; i++) {
                    units[many] = corner;
                    many++;
                }
            }
            return many;
        }

        private int leastOf(Ways ways, int set) {
            int giver = givers[Integer.bitCount(set) - 1];
            int best = FAR;
            for (int i = 0; i < STREETS; i++) {
                if ((set >> i & 1) != 0) {
                    best = Math.min(best, least[set & ~(1 << i)] + ways.between(giver, takers[i]));
                }
            }
            return best;
        }
    }

    /** Streets dealt to several postmen. */
    private static final class Deal {
        private final int[] sets = new int[POSTMEN];
        private final int[] tried = new int[STREETS];
        private int postmen = 1;
        final int[] best = new int[STREETS];
        boolean isFound = false;
        int greatest = 0;
        int together = 0;
        int busy = 0;

        void seek(Tour tour, int n) {
            postmen = n > POSTMEN ? POSTMEN : n;
            isFound = false;
            for (int man = 0; man < POSTMEN; man++) {
                sets[man] = 0;
            }
            give(tour, 0);
        }

        // More streets never cost less, so a dealing that is no better already is given up.
        private void give(Tour tour, int street) {
            if (!isBetter(tour)) {
                return;
            }
            if (street >= STREETS) {
                keep(tour);
                return;
            }
            if ((tour.due >> street & 1) == 0) {
                give(tour, street + 1);
                return;
            }
            for (int man = 0; man < postmen; man++) {
                tried[street] = man;
                sets[man] |= 1 << street;
                give(tour, street + 1);
                sets[man] &= ~(1 << street);
            }
        }

        private boolean isBetter(Tour tour) {
            int most = mostOf(tour);
            if (most >= FAR) {
                return false;
            }
            return !isFound || most < greatest || most == greatest && sumOf(tour) < together;
        }

        private int mostOf(Tour tour) {
            int most = 0;
            for (int man = 0; man < postmen; man++) {
                most = Math.max(most, tour.costOfSet(sets[man]));
            }
            return most;
        }

        private int sumOf(Tour tour) {
            int sum = 0;
            for (int man = 0; man < postmen; man++) {
                sum += tour.costOfSet(sets[man]);
            }
            return sum;
        }

        private void keep(Tour tour) {
            isFound = true;
            greatest = mostOf(tour);
            together = sumOf(tour);
            System.arraycopy(tried, 0, best, 0, STREETS);
            busy = 0;
            for (int man = 0; man < postmen; man++) {
                busy += sets[man] != 0 ? 1 : 0;
            }
        }
    }

    /** Letters that tell a map. */
    private static final class Reader {
        private final int[] text = new int[LETTERS];
        int size = 0;
        int statements = 0;

        void take(int letter) {
            if (size < LETTERS) {
                text[size] = letter;
                size++;
            }
        }

        void forget() {
            size = 0;
        }

        private int at(int place) {
            return place >= 0 && place < size ? text[place] : -1;
        }

        // What stands behind a statement's first letter: c a corner, d a digit.
        private static String formOf(int first) {
            switch (first) {
                case 's': return "ccdd;";
                case 'k': return "ddd;";
                case 'l': return "ddd;";
                case 'x': return "d;";
                case 'h': return "c;";
                default: return "";
            }
        }

        private static boolean fits(int letter, char form) {
            switch (form) {
                case 'c': return letter >= 'a' && letter <= 'z';
                case 'd': return letter >= '0' && letter <= '9';
                default: return letter == form;
            }
        }

        /** The place with which no map can go on, or NONE; counts the statements. */
        int faultOfForm() {
            int place = 0;
            for (statements = 0; statements < LETTERS; statements++) {
                if (statements > 0 && place >= size) {
                    return NONE;
                }
                String form = formOf(at(place));
                int fitting = fitting(place + 1, form);
                if (form.isEmpty()) {
                    return place;
                }
                if (fitting < form.length()) {
                    return place + 1 + fitting;
                }
                place += 1 + fitting;
            }
            return NONE;
        }

        /** How many letters from the place on are as the form tells. */
        private int fitting(int place, String form) {
            int many = 0;
            while (many < form.length() && fits(at(place + many), form.charAt(many))) {
                many++;
            }
            return many;
        }

        /** The place of the first statement that is not as it must be, or NONE. */
        int build(Town town) {
            int place = 0;
            for (int i = 0; i < statements; i++) {
                if (!tell(town, place)) {
                    return place;
                }
                place += 1 + formOf(at(place)).length();
            }
            return NONE;
        }

        private boolean tell(Town town, int place) {
            switch (at(place)) {
                case 's': return tellStreet(town, place);
                case 'k': return tellKind(town, place);
                case 'l': return tellLength(town, place);
                case 'x': return tellTurn(town, place);
                default: return tellHome(town, place);
            }
        }

        private boolean tellStreet(Town town, int place) {
            int from = at(place + 1) - 'a';
            int to = at(place + 2) - 'a';
            int length = number(place + 3);
            if (!isCorner(from) || !isCorner(to) || from == to || length < 1 || !town.hasRoom()) {
                return false;
            }
            town.add(from, to, length);
            return true;
        }

        private boolean tellHome(Town town, int place) {
            int corner = at(place + 1) - 'a';
            if (!isCorner(corner)) {
                return false;
            }
            town.home = corner;
            return true;
        }

        private boolean tellKind(Town town, int place) {
            int street = digit(place + 1);
            int kind = digit(place + 2);
            if (!town.has(street) || kind < 0 || kind >= KINDS) {
                return false;
            }
            town.kinds[street] = kind;
            town.figures[street] = digit(place + 3);
            return true;
        }

        private boolean tellLength(Town town, int place) {
            int street = digit(place + 1);
            int length = number(place + 2);
            if (!town.has(street) || length < 1) {
                return false;
            }
            town.lengths[street] = length;
            return true;
        }

        private boolean tellTurn(Town town, int place) {
            int street = digit(place + 1);
            if (!town.has(street)) {
                return false;
            }
            town.openOrClose(street);
            return true;
        }

        private int digit(int place) {
            return at(place) - '0';
        }

        private int number(int place) {
            return 10 * digit(place) + digit(place + 1);
        }
    }
}
