/** People in a desert with one bottle; ../shared/DOC.md tells what every call answers. */
public final class BottleFour {
    public static final int BAD = -1, STATE = -2, FULL = -3, NONE = -4;

    private static final int TAPE_MOST = 160;
    private static final int PEOPLE_MOST = 4;
    private static final int WELLS_MOST = 3;
    private static final int LEVEL_MOST = 20;
    private static final int BOTTLE_MOST = 60;
    private static final int CLOTHS_MOST = 9;
    private static final int TENTHS = 10;
    private static final int HOURS_IN_DAY = 24;
    private static final int HOUR_END = 1000;
    private static final int GO_MOST = 60;
    private static final int AHEAD_MOST = 96;
    private static final int LATE_MOST = 72;
    private static final int DRIFT_MOST = 60;
    private static final int SEEN_MOST = 6;
    private static final int SEEN_HOURS_MOST = 24;
    private static final int IMAGES_MOST = 2;
    private static final int SHEETS_MOST = 4;
    private static final int CELLS_MOST = 40;
    private static final int READ_MOST = 20;

    private static final int KIND_COUNT = 5;
    private static final int MEASURED = 0, THIRSTY = 1, SLY = 2, LAST = 3, GIVER = 4;
    private static final int PLAN_COUNT = 4;
    private static final int BY_NIGHT = 0, BY_DAY = 1, ALWAYS = 2, STAYING = 3;
    private static final int LANE_COUNT = 3;
    private static final int BYTES = 0, SHORTS = 1;
    private static final int NULL_FAULT = 1, INDEX_FAULT = 2, CAST_FAULT = 3, SIZE_FAULT = 4;

    private final byte[] tape = new byte[TAPE_MOST];
    private int tapeLength = 0;
    private int textFault = 0;
    private final Camp now = new Camp();
    // What is only tried is tried on these two, so that no call makes an object.
    private final Camp trial = new Camp();
    private final Camp stayed = new Camp();
    private final TextReader reader = new TextReader(tape, trial);
    private final Camp[] images = {new Camp(), new Camp()};
    private final boolean[] kept = new boolean[IMAGES_MOST];
    private final int[] seenHours = new int[SEEN_MOST];
    private final int[] seenCaps = new int[SEEN_MOST];
    private int seenCount = 0;
    private final Sheet[] sheets = {new Sheet(), new Sheet(), new Sheet(), new Sheet()};
    private int readFault = 0;

    public BottleFour() {
    }

    // ---- the text, what there is

    public int feed(int c) {
        if (!within(c, 0, 127)) {
            return BAD;
        }
        if (tapeLength >= TAPE_MOST) {
            return FULL;
        }
        tape[tapeLength] = (byte) c;
        tapeLength++;
        return tapeLength;
    }

    public int end(int n) {
        if (!within(n, 0, tapeLength)) {
            return BAD;
        }
        int had = tapeLength;
        tapeLength = n;
        return had;
    }

    public int text() {
        int length = tapeLength;
        tapeLength = 0;
        reader.readAll(length);
        textFault = reader.faultFound;
        if (textFault != 0) {
            return -10 - reader.faultPlace;
        }
        now.copyFrom(trial);
        seenCount = 0;
        for (int k = 0; k < IMAGES_MOST; k++) {
            kept[k] = false;
        }
        return reader.lines;
    }

    public int fault() {
        return textFault;
    }

    public int rule(int what) {
        switch (what) {
            case 0: return now.people;
            case 1: return now.wells;
            case 2: return now.goal;
            case 3: return now.mile;
            case 4: return now.hour;
            case 5: return now.bottle;
            case 6: return now.plan;
            case 7: return now.cloths;
            case 8: return now.found;
            default: return BAD;
        }
    }

    public int one(int p, int what) {
        if (!isOne(p)) {
            return BAD;
        }
        switch (what) {
            case 0: return now.kind[p];
            case 1: return now.size[p];
            case 2: return now.level[p];
            case 3: return now.wanted(p);
            default: return BAD;
        }
    }

    public int well(int i, int what) {
        if (!isWell(i)) {
            return BAD;
        }
        switch (what) {
            case 0: return now.wellMile[i];
            case 1: return now.wellOdds[i];
            case 2: return now.wellCaps[i];
            case 3: return asNumber(now.wellWet[i]);
            default: return BAD;
        }
    }

    public int pours() {
        return now.pourer();
    }

    public int loses(int p, boolean walk) {
        return isOne(p) ? now.loss(p, walk) : BAD;
    }

    // ---- what is changed

    public int teach(int p, int kind) {
        if (!isOne(p) || !isKind(kind)) {
            return BAD;
        }
        int was = now.kind[p];
        now.kind[p] = kind;
        return was;
    }

    public int drink(int p, int caps) {
        return now.drinkAsAsked(p, caps);
    }

    public int fill(int v) {
        if (!within(v, 0, BOTTLE_MOST)) {
            return BAD;
        }
        int had = now.bottle;
        now.bottle = v;
        return had;
    }

    public int plan(int k) {
        if (!isPlan(k)) {
            return BAD;
        }
        int was = now.plan;
        now.plan = k;
        return was;
    }

    public int wet(int i, boolean is) {
        if (!isWell(i)) {
            return BAD;
        }
        boolean was = now.wellWet[i];
        now.wellWet[i] = is;
        return asNumber(was);
    }

    public int odd(int i, int v) {
        if (!isWell(i) || !within(v, 0, TENTHS)) {
            return BAD;
        }
        int were = now.wellOdds[i];
        now.wellOdds[i] = v;
        return were;
    }

    public int lay(int what, int v) {
        if (what == 0 && within(v, 0, CLOTHS_MOST)) {
            int were = now.cloths;
            now.cloths = v;
            return were;
        }
        if (what == 1 && within(v, 0, TENTHS)) {
            int was = now.found;
            now.found = v;
            return was;
        }
        return BAD;
    }

    // ---- hours

    public int go(int n) {
        if (!within(n, 0, GO_MOST)) {
            return BAD;
        }
        if (now.hour + n >= HOUR_END) {
            return FULL;
        }
        now.passHours(n, now.plan);
        return now.standing();
    }

    public int ahead(int n, int what) {
        boolean asksOne = what >= 10 && isOne(what - 10);
        if (!within(n, 0, AHEAD_MOST) || !(within(what, 0, 2) || asksOne)) {
            return BAD;
        }
        trial.copyFrom(now);
        trial.passHours(n, now.plan);
        return asksOne ? trial.level[what - 10] : told(trial, what);
    }

    public int down(int p) {
        if (!isOne(p)) {
            return BAD;
        }
        trial.copyFrom(now);
        for (int hours = 0; hours <= AHEAD_MOST; hours++) {
            if (trial.isDown(p)) {
                return hours;
            }
            trial.passHours(1, now.plan);
        }
        return NONE;
    }

    // ---- who arrives

    public int arrive(int plan, int what) {
        if (!isPlan(plan) || !within(what, 0, 1)) {
            return BAD;
        }
        trial.copyFrom(now);
        int hours = trial.hoursToGoal(plan);
        int arriving = trial.arrived();
        if (what == 0) {
            return arriving;
        }
        return arriving > 0 ? hours : NONE;
    }

    public int best(int what) {
        if (!within(what, 0, 1)) {
            return BAD;
        }
        int bestPlan = BY_NIGHT;
        int most = 0;
        int soonest = 0;
        for (int plan = BY_NIGHT; plan <= ALWAYS; plan++) {
            trial.copyFrom(now);
            int hours = trial.hoursToGoal(plan);
            int arriving = trial.arrived();
            // Where nobody arrives there is no sooner: then the first plan stays.
            if (arriving > most || (arriving > 0 && arriving == most && hours < soonest)) {
                bestPlan = plan;
                most = arriving;
                soonest = hours;
            }
        }
        return what == 0 ? bestPlan : most;
    }

    public int late(int k) {
        if (!within(k, 1, PEOPLE_MOST)) {
            return BAD;
        }
        int latest = NONE;
        stayed.copyFrom(now);
        for (int hours = 0; hours <= LATE_MOST; hours++) {
            trial.copyFrom(stayed);
            trial.hoursToGoal(ALWAYS);
            if (trial.arrived() >= k) {
                latest = hours;
            }
            stayed.passHour(false);
        }
        return latest;
    }

    public int least() {
        int standing = now.standing();
        for (int caps = 0; caps <= BOTTLE_MOST; caps++) {
            trial.copyFrom(now);
            trial.bottle = caps;
            trial.hoursToGoal(now.plan);
            if (trial.isAtGoal() && trial.standing() == standing) {
                return caps;
            }
        }
        return NONE;
    }

    public int alike(int kind) {
        if (!isKind(kind)) {
            return BAD;
        }
        trial.copyFrom(now);
        for (int p = 0; p < trial.people; p++) {
            trial.kind[p] = kind;
        }
        trial.hoursToGoal(now.plan);
        return trial.arrived();
    }

    public int alone(int p, int caps) {
        if (!isOne(p) || !within(caps, 0, LEVEL_MOST)) {
            return BAD;
        }
        if (now.isDown(p)) {
            return STATE;
        }
        trial.copyFrom(now);
        trial.leaveOnly(p);
        trial.bottle = caps;
        int hours = trial.hoursToGoal(now.plan);
        return trial.arrived() > 0 ? hours : NONE;
    }

    // ---- odds

    public long luck(int k, int plan, int what) {
        if (!within(k, 1, PEOPLE_MOST) || !isPlan(plan) || !within(what, 0, 1)) {
            return BAD;
        }
        long fitting = 0;
        for (int wetWells = 0; wetWells < 1 << now.wells; wetWells++) {
            long weight = weightOf(wetWells);
            if (weight > 0 && arrivingBy(wetWells, plan) >= k) {
                fitting += weight;
            }
        }
        return partOfFraction(fitting, power(TENTHS, now.wells), what);
    }

    public long mean(int plan, int what) {
        if (!isPlan(plan) || !within(what, 0, 1)) {
            return BAD;
        }
        long sum = 0;
        for (int wetWells = 0; wetWells < 1 << now.wells; wetWells++) {
            long weight = weightOf(wetWells);
            if (weight > 0) {
                sum += weight * arrivingBy(wetWells, plan);
            }
        }
        return partOfFraction(sum, power(TENTHS, now.wells), what);
    }

    public long stay(int n, int what) {
        if (!within(n, 0, AHEAD_MOST) || !within(what, 0, 1)) {
            return BAD;
        }
        int chances = 0;
        trial.copyFrom(now);
        for (int hours = 0; hours < n; hours++) {
            if (trial.hour % HOURS_IN_DAY == 12 && trial.standing() > 0) {
                chances++;
            }
            trial.passHour(false);
        }
        long all = power(TENTHS, chances);
        return partOfFraction(all - power(TENTHS - now.found, chances), all, what);
    }

    // ---- who drinks how

    public int see(int n, int caps) {
        if (!within(n, 1, SEEN_HOURS_MOST) || !within(caps, 0, BOTTLE_MOST)) {
            return BAD;
        }
        if (seenCount >= SEEN_MOST) {
            return FULL;
        }
        seenHours[seenCount] = n;
        seenCaps[seenCount] = caps;
        seenCount++;
        return seenCount;
    }

    public int forget(int n) {
        if (!within(n, 0, seenCount)) {
            return BAD;
        }
        int were = seenCount;
        seenCount = n;
        return were;
    }

    public int fits(int what) {
        if (!within(what, 0, 1)) {
            return BAD;
        }
        int fitting = 0;
        long codes = power(KIND_COUNT, now.people);
        for (int code = 0; code < codes; code++) {
            if (isAsSeen(code)) {
                if (what == 1) {
                    return code;
                }
                fitting++;
            }
        }
        return what == 0 ? fitting : NONE;
    }

    public int kinds(int p) {
        if (!isOne(p)) {
            return BAD;
        }
        int bits = 0;
        long codes = power(KIND_COUNT, now.people);
        for (int code = 0; code < codes; code++) {
            if (isAsSeen(code)) {
                bits |= 1 << trial.kind[p];
            }
        }
        return bits;
    }

    // ---- by a seed

    public int drift(int seed, int n, int what) {
        if (!within(n, 1, DRIFT_MOST) || !within(what, 0, 2)) {
            return BAD;
        }
        trial.copyFrom(now);
        int state = seed;
        for (int hours = 0; hours < n; hours++) {
            state = state * 1103515245 + 12345;
            trial.passHour((state >>> 16 & 0x7fff) % 3 != 0);
        }
        return told(trial, what);
    }

    // ---- images, sheets

    public int keep(int k) {
        if (!isImage(k)) {
            return BAD;
        }
        boolean was = kept[k];
        images[k].copyFrom(now);
        kept[k] = true;
        return asNumber(was);
    }

    public int back(int k) {
        if (!isImage(k)) {
            return BAD;
        }
        if (!kept[k]) {
            return STATE;
        }
        now.copyFrom(images[k]);
        return now.hour;
    }

    public int sheet(int k, int lane, int n) {
        if (!isSheet(k) || !isLane(lane) || n > CELLS_MOST) {
            return BAD;
        }
        if (n < 0) {
            return -10 - SIZE_FAULT;
        }
        sheets[k].renew(lane, n);
        return 1;
    }

    public int put(int k, int i, int v) {
        if (!isSheet(k)) {
            return BAD;
        }
        int met = sheets[k].faultAt(i);
        if (met != 0) {
            return -10 - met;
        }
        sheets[k].write(i, v);
        return 1;
    }

    public int read(int k, int lane, int f, int n) {
        if (!isSheet(k) || !isLane(lane) || !within(n, 0, READ_MOST)) {
            return BAD;
        }
        Sheet row = sheets[k];
        trial.copyFrom(now);
        int met = 0;
        int drunk = 0;
        for (int i = 0; i < n; i++) {
            // A pair is looked at only behind one that was there, so this cannot run over.
            int cell = f + 2 * i;
            met = row.faultOfPair(lane, cell);
            if (met != 0) {
                break;
            }
            if (trial.drinkAsAsked(row.cells[cell], row.cells[cell + 1]) < 0) {
                return -20 - i;
            }
            drunk++;
        }
        now.copyFrom(trial);
        readFault = met;
        return drunk;
    }

    public int torn() {
        return readFault;
    }

    public int count(int what) {
        switch (what) {
            case 0: return seenCount;
            case 1: return asNumber(kept[0]) + asNumber(kept[1]);
            case 2: return tapeLength;
            case 3: return sheets[0].isNothing() ? NONE : sheets[0].length;
            case 4: return now.standing();
            case 5: return now.allLevels();
            case 6: return now.wetWells();
            default: return BAD;
        }
    }

    private static boolean within(int v, int lowest, int highest) {
        return v >= lowest && v <= highest;
    }

    private static int asNumber(boolean is) {
        return is ? 1 : 0;
    }

    private boolean isOne(int p) {
        return within(p, 0, now.people - 1);
    }

    private boolean isWell(int i) {
        return within(i, 0, now.wells - 1);
    }

    private static boolean isKind(int kind) {
        return within(kind, 0, KIND_COUNT - 1);
    }

    private static boolean isPlan(int plan) {
        return within(plan, 0, PLAN_COUNT - 1);
    }

    private static boolean isImage(int k) {
        return within(k, 0, IMAGES_MOST - 1);
    }

    private static boolean isSheet(int k) {
        return within(k, 0, SHEETS_MOST - 1);
    }

    private static boolean isLane(int lane) {
        return within(lane, 0, LANE_COUNT - 1);
    }

    private static int told(Camp camp, int what) {
        switch (what) {
            case 0: return camp.mile;
            case 1: return camp.bottle;
            default: return camp.standing();
        }
    }

    /** How many in 10 to the power of WELLS: that just these wells are wet. */
    private long weightOf(int wetWells) {
        long weight = 1;
        for (int i = 0; i < now.wells; i++) {
            int odds = now.wellWet[i] ? now.wellOdds[i] : 0;
            boolean isWet = (wetWells >> i & 1) == 1;
            weight *= isWet ? odds : TENTHS - odds;
        }
        return weight;
    }

    private int arrivingBy(int wetWells, int plan) {
        trial.copyFrom(now);
        for (int i = 0; i < trial.wells; i++) {
            trial.wellWet[i] = (wetWells >> i & 1) == 1;
        }
        trial.hoursToGoal(plan);
        return trial.arrived();
    }

    /** Leaves in the trial the kinds that the code tells. */
    private boolean isAsSeen(int code) {
        trial.copyFrom(now);
        int rest = code;
        for (int p = trial.people - 1; p >= 0; p--) {
            trial.kind[p] = rest % KIND_COUNT;
            rest /= KIND_COUNT;
        }
        int last = lastHourSeen();
        for (int hours = 1; hours <= last; hours++) {
            trial.passHours(1, now.plan);
            if (!isAsSeenBehind(hours)) {
                return false;
            }
        }
        return true;
    }

    private int lastHourSeen() {
        int last = 0;
        for (int i = 0; i < seenCount; i++) {
            last = Math.max(last, seenHours[i]);
        }
        return last;
    }

    private boolean isAsSeenBehind(int hours) {
        for (int i = 0; i < seenCount; i++) {
            if (seenHours[i] == hours && seenCaps[i] != trial.bottle) {
                return false;
            }
        }
        return true;
    }

    private static long power(int base, int exponent) {
        long product = 1;
        for (int i = 0; i < exponent; i++) {
            product *= base;
        }
        return product;
    }

    private static long partOfFraction(long numerator, long denominator, int what) {
        long divisor = commonDivisor(numerator, denominator);
        if (divisor <= 0) {
            return what == 0 ? 0 : 1;
        }
        return (what == 0 ? numerator : denominator) / divisor;
    }

    private static long commonDivisor(long a, long b) {
        long high = a;
        long low = b;
        // Each two steps halve the higher one: 64 bits are gone long before the bound.
        for (int step = 0; step < 200 && low != 0; step++) {
            long rest = high % low;
            high = low;
            low = rest;
        }
        return high;
    }

    /** The people, the bottle, the way: all that an hour changes and goes by. */
    private static final class Camp {
        int people = 0;
        final int[] kind = new int[PEOPLE_MOST];
        final int[] size = new int[PEOPLE_MOST];
        final int[] level = new int[PEOPLE_MOST];
        int wells = 0;
        final int[] wellMile = new int[WELLS_MOST];
        final int[] wellOdds = new int[WELLS_MOST];
        final int[] wellCaps = new int[WELLS_MOST];
        final boolean[] wellWet = new boolean[WELLS_MOST];
        int bottle = 0;
        int goal = 20;
        int mile = 0;
        int hour = 18;
        int plan = BY_NIGHT;
        int cloths = 0;
        int found = 0;

        void clear() {
            people = 0;
            wells = 0;
            bottle = 0;
            goal = 20;
            mile = 0;
            hour = 18;
            plan = BY_NIGHT;
            cloths = 0;
            found = 0;
        }

        void copyFrom(Camp other) {
            people = other.people;
            wells = other.wells;
            bottle = other.bottle;
            goal = other.goal;
            mile = other.mile;
            hour = other.hour;
            plan = other.plan;
            cloths = other.cloths;
            found = other.found;
            for (int p = 0; p < people; p++) {
                kind[p] = other.kind[p];
                size[p] = other.size[p];
                level[p] = other.level[p];
            }
            for (int i = 0; i < wells; i++) {
                wellMile[i] = other.wellMile[i];
                wellOdds[i] = other.wellOdds[i];
                wellCaps[i] = other.wellCaps[i];
                wellWet[i] = other.wellWet[i];
            }
        }

        void leaveOnly(int p) {
            kind[0] = kind[p];
            size[0] = size[p];
            level[0] = level[p];
            people = 1;
        }

        boolean isDown(int p) {
            return level[p] == 0;
        }

        int standing() {
            int standing = 0;
            for (int p = 0; p < people; p++) {
                standing += isDown(p) ? 0 : 1;
            }
            return standing;
        }

        int allLevels() {
            int sum = 0;
            for (int p = 0; p < people; p++) {
                sum += level[p];
            }
            return sum;
        }

        int wetWells() {
            int wet = 0;
            for (int i = 0; i < wells; i++) {
                wet += wellWet[i] ? 1 : 0;
            }
            return wet;
        }

        boolean isAtGoal() {
            return mile >= goal;
        }

        boolean isDay() {
            int ofDay = hour % HOURS_IN_DAY;
            return ofDay >= 6 && ofDay <= 17;
        }

        int pourer() {
            return people > 0 ? hour % people : NONE;
        }

        int wanted(int p) {
            if (isDown(p)) {
                return 0;
            }
            switch (kind[p]) {
                case THIRSTY: return Math.max(0, 10 - level[p]);
                case SLY: return pourer() == p ? 2 : 1;
                case LAST: return level[p] <= 4 ? 2 : 0;
                default: return 1;
            }
        }

        /** Whose level a drink of p raises. */
        int drinkerFor(int p) {
            int drinker = p;
            if (kind[p] == GIVER) {
                for (int other = 0; other < people; other++) {
                    if (!isDown(other) && level[other] < level[drinker]) {
                        drinker = other;
                    }
                }
            }
            return drinker;
        }

        int loss(int p, boolean walks) {
            if (isDown(p)) {
                return 0;
            }
            int lost = (isDay() ? 1 : 0) + (walks ? 1 : 0);
            if (size[p] == 3 || (size[p] == 2 && hour % 2 == 0)) {
                lost++;
            }
            return lost;
        }

        int drinkAsAsked(int p, int caps) {
            if (!within(p, 0, people - 1) || !within(caps, 0, LEVEL_MOST)) {
                return BAD;
            }
            if (isDown(p) || caps > bottle) {
                return STATE;
            }
            if (level[p] + caps > LEVEL_MOST) {
                return FULL;
            }
            level[p] += caps;
            bottle -= caps;
            return level[p];
        }

        boolean walksBy(int chosenPlan) {
            switch (chosenPlan) {
                case BY_NIGHT: return !isDay();
                case BY_DAY: return isDay();
                case ALWAYS: return true;
                default: return false;
            }
        }

        void passHours(int n, int chosenPlan) {
            for (int i = 0; i < n; i++) {
                passHour(walksBy(chosenPlan));
            }
        }

        void passHour(boolean walks) {
            boolean isOver = isAtGoal() || standing() == 0;
            if (!isOver) {
                if (hour % HOURS_IN_DAY == 4) {
                    pourIn(cloths);
                }
                drinkRound();
                loseWater(walks);
                if (walks && standing() > 0) {
                    walkOn();
                }
            }
            hour++;
        }

        void pourIn(int caps) {
            bottle = Math.min(BOTTLE_MOST, bottle + caps);
        }

        void drinkRound() {
            int pouring = pourer();
            for (int turn = 1; turn <= people; turn++) {
                int p = (pouring + turn) % people;
                int drinker = drinkerFor(p);
                int caps = Math.min(wanted(p), Math.min(LEVEL_MOST - level[drinker], bottle));
                level[drinker] += caps;
                bottle -= caps;
            }
        }

        void loseWater(boolean walks) {
            for (int p = 0; p < people; p++) {
                level[p] = Math.max(0, level[p] - loss(p, walks));
            }
        }

        void walkOn() {
            int from = mile;
            mile += (isDay() ? 2 : 3) - (isSomeoneWeak() ? 1 : 0);
            for (int i = 0; i < wells; i++) {
                if (wellWet[i] && wellMile[i] > from && wellMile[i] <= mile) {
                    pourIn(wellCaps[i]);
                    wellWet[i] = false;
                }
            }
        }

        boolean isSomeoneWeak() {
            for (int p = 0; p < people; p++) {
                if (!isDown(p) && level[p] <= 5) {
                    return true;
                }
            }
            return false;
        }

        /** ARRIVING: how many hours it took, or would have taken at most. */
        int hoursToGoal(int chosenPlan) {
            int hours = 0;
            while (hours < AHEAD_MOST && !isAtGoal()) {
                passHour(walksBy(chosenPlan));
                hours++;
            }
            return hours;
        }

        int arrived() {
            return isAtGoal() ? standing() : 0;
        }
    }

    /** A row of cells of one lane, or nothing; its cells are made once and used again. */
    private static final class Sheet {
        final int[] cells = new int[CELLS_MOST];
        int lane = 0;
        int length = -1;

        boolean isNothing() {
            return length < 0;
        }

        void renew(int newLane, int newLength) {
            lane = newLane;
            length = newLength;
            for (int i = 0; i < CELLS_MOST; i++) {
                cells[i] = 0;
            }
        }

        int faultAt(int i) {
            if (isNothing()) {
                return NULL_FAULT;
            }
            return within(i, 0, length - 1) ? 0 : INDEX_FAULT;
        }

        int faultOfPair(int takenAs, int i) {
            if (!isNothing() && lane != takenAs) {
                return CAST_FAULT;
            }
            int ofFirst = faultAt(i);
            return ofFirst != 0 ? ofFirst : faultAt(i + 1);
        }

        void write(int i, int v) {
            switch (lane) {
                case BYTES: cells[i] = (byte) v; break;
                case SHORTS: cells[i] = (short) v; break;
                default: cells[i] = v; break;
            }
        }
    }

    /** Reads a text into a camp, token by token, up to its first fault. */
    private static final class TextReader {
        static final int END = 0, NAME = 1, NUMBER = 2, STOP = 3;
        static final int NO_TOKEN = 1, MISPLACED = 2, OUT_OF_BOUNDS = 3, TWICE = 4, TOO_MANY = 5,
            NO_SUCH_WELL = 6;
        static final int ONE_LINE = 0, WELL_LINE = 1, DRY_LINE = 2, BOTTLE_LINE = 3, GOAL_LINE = 4,
            PLAN_LINE = 5, DEW_LINE = 6, FOUND_LINE = 7, NO_LINE = 8;

        final byte[] bytes;
        final Camp camp;
        int length = 0;
        int token = END;
        int tokenPlace = 0;
        int nextPlace = 0;
        int number = 0;
        int toldLines = 0;
        int dryWells = 0;
        int lines = 0;
        int faultFound = 0;
        int faultPlace = 0;

        TextReader(byte[] tapeBytes, Camp into) {
            bytes = tapeBytes;
            camp = into;
        }

        void readAll(int tapeLength) {
            length = Math.min(tapeLength, bytes.length);
            camp.clear();
            nextPlace = 0;
            toldLines = 0;
            dryWells = 0;
            lines = 0;
            faultFound = 0;
            faultPlace = 0;
            // A line takes a byte at least.
            for (int i = 0; i <= TAPE_MOST; i++) {
                if (!nextToken() || token == END || !readLine()) {
                    break;
                }
                lines++;
            }
            if (faultFound == 0) {
                dryUpWells();
            }
        }

        /** Marks a fault; its answer is what a reading that failed answers. */
        boolean fail(int kindOfFault, int place) {
            faultFound = kindOfFault;
            faultPlace = place;
            return false;
        }

        void dryUpWells() {
            for (int i = 0; i < WELLS_MOST; i++) {
                if ((dryWells >> i & 1) == 1) {
                    if (i >= camp.wells) {
                        fail(NO_SUCH_WELL, length);
                        return;
                    }
                    camp.wellWet[i] = false;
                }
            }
        }

        boolean nextToken() {
            tokenPlace = endOfRun(nextPlace, ' ', ' ');
            nextPlace = length;
            if (tokenPlace >= length) {
                token = END;
                return true;
            }
            int first = bytes[tokenPlace];
            if (within(first, 'a', 'z')) {
                token = NAME;
                nextPlace = endOfRun(tokenPlace, 'a', 'z');
                return true;
            }
            if (within(first, '0', '9')) {
                token = NUMBER;
                nextPlace = endOfRun(tokenPlace, '0', '9');
                number = nextPlace - tokenPlace == 1
                    ? first - '0' : (first - '0') * 10 + bytes[tokenPlace + 1] - '0';
                return nextPlace - tokenPlace <= 2 || fail(NO_TOKEN, tokenPlace);
            }
            token = STOP;
            nextPlace = tokenPlace + 1;
            return first == ';' || fail(NO_TOKEN, tokenPlace);
        }

        int endOfRun(int from, int lowest, int highest) {
            int place = from;
            while (place < length && bytes[place] >= lowest && bytes[place] <= highest) {
                place++;
            }
            return place;
        }

        boolean isName(String word) {
            if (token != NAME || nextPlace - tokenPlace != word.length()) {
                return false;
            }
            for (int i = 0; i < word.length(); i++) {
                if (bytes[tokenPlace + i] != word.charAt(i)) {
                    return false;
                }
            }
            return true;
        }

        boolean readLine() {
            int line = lineByName();
            if ((toldLines >> line & 1) == 1) {
                return fail(TWICE, tokenPlace);
            }
            if (line >= BOTTLE_LINE) {
                toldLines |= 1 << line;
            }
            switch (line) {
                case ONE_LINE: return readOne() && readStop();
                case WELL_LINE: return readWell() && readStop();
                case DRY_LINE: return readDry() && readStop();
                case BOTTLE_LINE: return readBottle() && readStop();
                case GOAL_LINE: return readGoal() && readStop();
                case PLAN_LINE: return readPlan() && readStop();
                case DEW_LINE: return readDew() && readStop();
                case FOUND_LINE: return readFound() && readStop();
                default: return fail(MISPLACED, tokenPlace);
            }
        }

        int lineByName() {
            if (isName("one")) return ONE_LINE;
            if (isName("well")) return WELL_LINE;
            if (isName("dry")) return DRY_LINE;
            if (isName("bottle")) return BOTTLE_LINE;
            if (isName("goal")) return GOAL_LINE;
            if (isName("plan")) return PLAN_LINE;
            if (isName("dew")) return DEW_LINE;
            if (isName("found")) return FOUND_LINE;
            return NO_LINE;
        }

        boolean readStop() {
            return nextToken() && (token == STOP || fail(MISPLACED, tokenPlace));
        }

        boolean readNumber(int lowest, int highest) {
            if (!nextToken()) {
                return false;
            }
            if (token != NUMBER) {
                return fail(MISPLACED, tokenPlace);
            }
            return within(number, lowest, highest) || fail(OUT_OF_BOUNDS, tokenPlace);
        }

        boolean readOne() {
            int p = camp.people;
            if (p >= PEOPLE_MOST) {
                return fail(TOO_MANY, tokenPlace);
            }
            if (!nextToken()) {
                return false;
            }
            int kind = kindByName();
            if (kind == NONE) {
                return fail(MISPLACED, tokenPlace);
            }
            camp.kind[p] = kind;
            if (!readNumber(1, 3)) {
                return false;
            }
            camp.size[p] = number;
            if (!readNumber(0, LEVEL_MOST)) {
                return false;
            }
            camp.level[p] = number;
            camp.people++;
            return true;
        }

        int kindByName() {
            if (isName("measured")) return MEASURED;
            if (isName("thirsty")) return THIRSTY;
            if (isName("sly")) return SLY;
            if (isName("last")) return LAST;
            if (isName("giver")) return GIVER;
            return NONE;
        }

        boolean readWell() {
            int i = camp.wells;
            if (i >= WELLS_MOST) {
                return fail(TOO_MANY, tokenPlace);
            }
            if (!readNumber(1, 60)) {
                return false;
            }
            camp.wellMile[i] = number;
            if (!readNumber(0, TENTHS)) {
                return false;
            }
            camp.wellOdds[i] = number;
            if (!readNumber(1, 20)) {
                return false;
            }
            camp.wellCaps[i] = number;
            camp.wellWet[i] = true;
            camp.wells++;
            return true;
        }

        boolean readDry() {
            if (!readNumber(0, WELLS_MOST - 1)) {
                return false;
            }
            if ((dryWells >> number & 1) == 1) {
                return fail(TWICE, tokenPlace);
            }
            dryWells |= 1 << number;
            return true;
        }

        boolean readBottle() {
            if (!readNumber(0, BOTTLE_MOST)) {
                return false;
            }
            camp.bottle = number;
            return true;
        }

        boolean readGoal() {
            if (!readNumber(0, 60)) {
                return false;
            }
            camp.goal = number;
            if (!readNumber(0, HOURS_IN_DAY - 1)) {
                return false;
            }
            camp.hour = number;
            return true;
        }

        boolean readPlan() {
            if (!nextToken()) {
                return false;
            }
            int plan = planByName();
            if (plan == NONE) {
                return fail(MISPLACED, tokenPlace);
            }
            camp.plan = plan;
            return true;
        }

        int planByName() {
            if (isName("night")) return BY_NIGHT;
            if (isName("day")) return BY_DAY;
            if (isName("all")) return ALWAYS;
            if (isName("stay")) return STAYING;
            return NONE;
        }

        boolean readDew() {
            if (!readNumber(0, CLOTHS_MOST)) {
                return false;
            }
            camp.cloths = number;
            return true;
        }

        boolean readFound() {
            if (!readNumber(0, TENTHS)) {
                return false;
            }
            camp.found = number;
            return true;
        }
    }
}
