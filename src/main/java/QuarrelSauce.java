import java.util.Arrays;

/** A kitchen whose famous sauce is what happens between two cooks who don't speak. */
public final class QuarrelSauce {
    private static final int LOW = -1000001;
    // The findings, as how far each lies under LOW.
    private static final int BEYOND = 0;
    private static final int FULL = 1;
    private static final int KIND = 2;
    private static final int NONE = 3;
    private static final int STATE = 4;
    private static final int MISSING = 5;
    private static final int SIZE = 6;
    private static final int FINDINGS = 7;
    private static final int FINE = -1;

    private static final int SAUCE = 0;
    private static final int CREAM = 1;
    private static final int STOCK = 2;
    private static final int GLAZE = 3;
    private static final int DARK = 4;
    private static final int SALAD = 5;
    private static final int CUSTARD = 6;
    private static final int KINDS = 7;
    /** The kind that each kind is directly under; -1: none. */
    private static final int[] ABOVE = {-1, SAUCE, SAUCE, STOCK, GLAZE, SAUCE, CREAM};

    private static final int DRAWER = 1;
    private static final int SALTING = 2;
    private static final int SARCASM = 8;
    private static final int DEEDS = 12;
    /** By how much each deed changes the grudge. */
    private static final int[] DEED_CHANGES = {0, 8, 5, 3, -20, 12, 15, -4, 2, -9, 6, 1};

    private static final int PLACES = 6;
    private static final int DISHES = 8;
    private static final int SPOTS = 10;
    private static final int SHEETS = 4;
    private static final int ROW = 40;
    private static final int TAPE = 120;

    private static final int MOST = 99;
    private static final int MOST_HEAT = 9;
    private static final int MOST_SERVED = 9999;
    private static final int MOST_STARS = 99999;
    private static final int MOST_STEP = 99999;
    private static final int FIRST_THICK = 10;
    private static final int FIRST_SALT = 10;

    private static final int FAR = 200;
    private static final int PLAN = 60;
    private static final int MOST_ODDS = 17;
    private static final int ANY = -1;

    private final Kitchen kitchen = new Kitchen();
    private final Kitchen kept = new Kitchen();
    /** Where what will be is tried out, so that no call makes objects. */
    private final Kitchen draft = new Kitchen();
    private final Tape tape = new Tape();
    private final Sheet[] sheets = new Sheet[SHEETS];
    private final int[] findings = new int[FINDINGS];
    private boolean isKept = false;

    public QuarrelSauce() {
        for (int s = 0; s < SHEETS; s++) {
            sheets[s] = new Sheet();
        }
    }

    // ---- kitchen, dishes

    public int set(int what, int v) {
        if (what == 0 && within(v, 0, MOST)) {
            int was = kitchen.grudge;
            kitchen.grudge = v;
            return was;
        }
        if (what == 1 && within(v, 0, MOST_HEAT)) {
            int was = kitchen.heat;
            kitchen.heat = v;
            return was;
        }
        return found(BEYOND);
    }

    public int deed(int i, int deed) {
        if (!isPlace(i) || !isDeed(deed)) {
            return found(BEYOND);
        }
        int was = kitchen.list[i];
        kitchen.list[i] = deed;
        return was;
    }

    public int listed(int i) {
        return isPlace(i) ? kitchen.list[i] : found(BEYOND);
    }

    public int dish(int kind, int thick) {
        if (!isKind(kind) || !within(thick, 0, MOST)) {
            return found(BEYOND);
        }
        if (kitchen.dishCount >= DISHES) {
            return found(FULL);
        }
        kitchen.addDish(kind).thick = thick;
        return kitchen.dishCount - 1;
    }

    public int of(int dish, int what) {
        if (!isDish(dish) || !within(what, 0, 10)) {
            return found(BEYOND);
        }
        return kitchen.told(dish, what);
    }

    public int change(int dish, int what, int v) {
        if (!isDish(dish) || !within(what, 0, 5) || !within(v, 0, mostOf(what))) {
            return found(BEYOND);
        }
        int was = kitchen.told(dish, what);
        kitchen.dishes[dish].put(what, v);
        return was;
    }

    public int serve(int dish) {
        if (!isDish(dish)) {
            return found(BEYOND);
        }
        if (kitchen.dishes[dish].off == 1) {
            return found(STATE);
        }
        return kitchen.serveDish(dish);
    }

    public int act(int deed) {
        if (!isDeed(deed)) {
            return found(BEYOND);
        }
        kitchen.grudge = grudgeAfter(kitchen.grudge, deed);
        return kitchen.grudge;
    }

    // ---- steps

    public int go(int n) {
        if (!within(n, 1, 60)) {
            return found(BEYOND);
        }
        if (kitchen.step + n > MOST_STEP) {
            return found(STATE);
        }
        kitchen.passSteps(n);
        return kitchen.grudge;
    }

    public int now(int what) {
        switch (what) {
            case 0: return kitchen.step;
            case 1: return kitchen.grudge;
            case 2: return kitchen.stars;
            case 3: return kitchen.splitSet();
            case 4: return kitchen.offSet();
            case 5: return kitchen.endangeredSet();
            case 6: return kitchen.givenForAll();
            case 7: return kitchen.dearest();
            default: return found(BEYOND);
        }
    }

    // ---- what will be (nothing changes)

    public int ahead(int dish, int what, int n) {
        boolean isTold = within(what, 1, 3) || what == 10;
        if (!isDish(dish) || !isTold || !within(n, 0, 100)) {
            return found(BEYOND);
        }
        draft.takeOne(kitchen, dish);
        draft.passSteps(n);
        return draft.told(0, what);
    }

    public int mood(int n) {
        if (!within(n, 0, 100)) {
            return found(BEYOND);
        }
        draft.takeMood(kitchen);
        draft.passSteps(n);
        return draft.grudge;
    }

    public int splits(int dish) {
        if (!isDish(dish)) {
            return found(BEYOND);
        }
        draft.takeOne(kitchen, dish);
        for (int n = 0; n <= FAR; n++) {
            if (draft.dishes[0].split == 1) {
                return n;
            }
            draft.passStep();
        }
        return found(NONE);
    }

    public int ready(int dish, int v) {
        if (!isDish(dish) || !within(v, 0, 999)) {
            return found(BEYOND);
        }
        draft.takeOne(kitchen, dish);
        for (int n = 0; n <= FAR; n++) {
            if (draft.given(0) >= v) {
                return n;
            }
            draft.passStep();
        }
        return found(NONE);
    }

    public int peace(int v) {
        if (!within(v, 0, MOST)) {
            return found(BEYOND);
        }
        draft.takeMood(kitchen);
        for (int n = 0; n <= FAR; n++) {
            if (draft.grudge <= v) {
                return n;
            }
            draft.passStep();
        }
        return found(NONE);
    }

    // ---- what to do

    public int deedFor(int i, int n) {
        if (!isPlace(i) || !within(n, 0, PLAN)) {
            return found(BEYOND);
        }
        int choice = 0;
        int most = -1;
        for (int deed = 0; deed < DEEDS; deed++) {
            draft.takeAll(kitchen);
            draft.list[i] = deed;
            draft.passSteps(n);
            int given = draft.givenForAll();
            if (given > most) {
                most = given;
                choice = deed;
            }
        }
        return choice;
    }

    public int grudgeFor(int dish, int n) {
        if (!isDish(dish) || !within(n, 0, PLAN)) {
            return found(BEYOND);
        }
        for (int grudge = 0; grudge <= MOST; grudge++) {
            draft.takeOne(kitchen, dish);
            draft.grudge = grudge;
            draft.passSteps(n);
            if (draft.dishes[0].split == 0) {
                return grudge;
            }
        }
        return found(NONE);
    }

    public int kindFor(int dish, int n) {
        if (!isDish(dish) || !within(n, 0, PLAN)) {
            return found(BEYOND);
        }
        int choice = 0;
        int most = -1;
        for (int kind = 0; kind < KINDS; kind++) {
            draft.takeOne(kitchen, dish);
            draft.dishes[0].kind = kind;
            draft.passSteps(n);
            int given = draft.given(0);
            if (given > most) {
                most = given;
                choice = kind;
            }
        }
        return choice;
    }

    public int best(int dish) {
        if (!isDish(dish)) {
            return found(BEYOND);
        }
        draft.takeOne(kitchen, dish);
        int choice = 0;
        int most = draft.given(0);
        for (int n = 1; n <= PLAN; n++) {
            draft.passStep();
            int given = draft.given(0);
            if (given > most) {
                most = given;
                choice = n;
            }
        }
        return choice;
    }

    public int takeOff(int n) {
        if (!within(n, 0, 20)) {
            return found(BEYOND);
        }
        // No dish touches another and none is mended by a step, so just those
        // that would split anew must go: one set does, and there always is one.
        draft.takeAll(kitchen);
        draft.passSteps(n);
        return draft.splitSet() & ~kitchen.splitSet();
    }

    // ---- told dishes

    public int fits(int s, int dish) {
        int fault = faultOfTold(s, dish);
        if (fault != FINE) {
            return found(fault);
        }
        int fitting = 0;
        for (int grudge = 0; grudge <= MOST; grudge++) {
            draft.takeOne(kitchen, dish);
            draft.grudge = grudge;
            if (draftGoesAs(sheets[s])) {
                fitting++;
            }
        }
        return fitting;
    }

    public int kinds(int s, int dish) {
        int fault = faultOfTold(s, dish);
        if (fault != FINE) {
            return found(fault);
        }
        int set = 0;
        for (int kind = 0; kind < KINDS; kind++) {
            draft.takeOne(kitchen, dish);
            draft.dishes[0].kind = kind;
            if (draftGoesAs(sheets[s])) {
                set |= 1 << kind;
            }
        }
        return set;
    }

    // ---- services

    public int service(int n) {
        if (!within(n, 1, 20)) {
            return found(BEYOND);
        }
        if (kitchen.step + n > MOST_STEP) {
            return found(STATE);
        }
        for (int k = 0; k < n; k++) {
            kitchen.serviceStep();
        }
        return kitchen.stars;
    }

    public long odds(int dish, int n, int what) {
        if (!isDish(dish) || !within(n, 0, MOST_ODDS) || !within(what, 0, 1)) {
            return found(BEYOND);
        }
        int harmless = kitchen.harmlessDeeds(dish);
        // Lowest terms ahead of the power are lowest terms behind it.
        int shared = commonDivisor(harmless, DEEDS);
        return power((what == 0 ? harmless : DEEDS) / shared, n);
    }

    public int seed(int v) {
        int was = kitchen.z;
        kitchen.z = v;
        return was;
    }

    // ---- texts

    public int feed(int bytes, int n) {
        if (!within(n, 1, 4)) {
            return found(BEYOND);
        }
        if (tape.length + n > TAPE) {
            return found(FULL);
        }
        tape.append(bytes, n);
        return tape.length;
    }

    public int wipe() {
        int had = tape.length;
        tape.length = 0;
        return had;
    }

    public int text() {
        draft.takeAll(kitchen);
        int items = tape.readText(draft);
        tape.length = 0;
        if (items > 0) {
            kitchen.takeAll(draft);
        }
        return items;
    }

    // ---- spots, sheets

    public int hold(int spot, int dish) {
        if (!isSpot(spot) || (dish != -1 && !isDish(dish))) {
            return found(BEYOND);
        }
        kitchen.spots[spot] = dish;
        return 1;
    }

    public int as(int spot, int kind) {
        if (!isSpot(spot) || !isKind(kind)) {
            return found(BEYOND);
        }
        int dish = kitchen.spots[spot];
        if (!isDish(dish)) {
            return found(MISSING);
        }
        if (!isUnder(kitchen.dishes[dish].kind, kind)) {
            return found(KIND);
        }
        return dish;
    }

    public int sheet(int s, int bits, int n) {
        boolean isWidth = bits == 0 || bits == 8 || bits == 16 || bits == 32;
        if (!isSheet(s) || !isWidth) {
            return found(BEYOND);
        }
        if (n < 0) {
            return found(SIZE);
        }
        if (n > ROW) {
            return found(BEYOND);
        }
        sheets[s].renew(bits, bits == 0 ? 0 : n);
        return sheets[s].length;
    }

    public int write(int s, int i, int v) {
        int fault = faultOfSheet(s);
        if (fault != FINE) {
            return found(fault);
        }
        if (!within(i, 0, sheets[s].length - 1)) {
            return found(BEYOND);
        }
        sheets[s].put(i, v);
        return 1;
    }

    public int copy(int s, int from, int t, int to, int n) {
        if (!isSheet(s) || !isSheet(t)) {
            return found(BEYOND);
        }
        if (sheets[s].isMissing() || sheets[t].isMissing()) {
            return found(MISSING);
        }
        if (sheets[s].bits != sheets[t].bits) {
            return found(KIND);
        }
        if (!sheets[s].hasPart(from, n) || !sheets[t].hasPart(to, n)) {
            return found(BEYOND);
        }
        System.arraycopy(sheets[s].row, from, sheets[t].row, to, n);
        return n;
    }

    public int load(int s) {
        int fault = faultOfSheet(s);
        if (fault != FINE) {
            return found(fault);
        }
        Sheet told = sheets[s];
        int came = 0;
        while (came < PLACES && came < told.length && isDeed(told.row[came])) {
            kitchen.list[came] = told.row[came];
            came++;
        }
        return came;
    }

    public int judge(int s) {
        int fault = faultOfSheet(s);
        if (fault != FINE) {
            return found(fault);
        }
        Sheet told = sheets[s];
        for (int i = 0; i < told.length; i++) {
            if (!isDish(i) || kitchen.dishes[i].thick != told.row[i]) {
                return 1 + i;
            }
        }
        return 0;
    }

    // ---- images

    public int image() {
        kept.takeAll(kitchen);
        isKept = true;
        return 1;
    }

    public int undo() {
        if (!isKept) {
            return found(NONE);
        }
        kitchen.takeAll(kept);
        return kitchen.step;
    }

    public int tear() {
        int had = isKept ? 1 : 0;
        isKept = false;
        return had;
    }

    public int count(int what) {
        switch (what) {
            case 0: return kitchen.step;
            case 1: return kitchen.dishCount;
            case 2: return kitchen.grudge;
            case 3: return kitchen.stars;
            case 4: return Integer.bitCount(kitchen.splitSet());
            case 5: return tape.length;
            case 6: return kitchen.z;
            case 7: return kitchen.heldSpots();
            default: return found(BEYOND);
        }
    }

    public int status(int which) {
        if (!within(which, -1, FINDINGS - 1)) {
            return found(BEYOND);
        }
        if (which >= 0) {
            return findings[which];
        }
        int all = 0;
        for (int finding : findings) {
            all += finding;
        }
        return all;
    }

    // ---- what the calls share

    private int found(int finding) {
        findings[finding]++;
        return LOW - finding;
    }

    private boolean isDish(int dish) {
        return within(dish, 0, kitchen.dishCount - 1);
    }

    /** The finding for a sheet that must be there, or FINE. */
    private int faultOfSheet(int s) {
        if (!isSheet(s)) {
            return BEYOND;
        }
        return sheets[s].isMissing() ? MISSING : FINE;
    }

    /** The finding for a sheet that tells of a dish, or FINE. */
    private int faultOfTold(int s, int dish) {
        int fault = faultOfSheet(s);
        if (fault == FINE && !isDish(dish)) {
            return BEYOND;
        }
        return fault;
    }

    /** Whether the one dish of the draft is as thick, from now on, as a sheet tells. */
    private boolean draftGoesAs(Sheet told) {
        for (int i = 0; i < told.length; i++) {
            if (i > 0) {
                draft.passStep();
            }
            if (told.row[i] != ANY && told.row[i] != draft.dishes[0].thick) {
                return false;
            }
        }
        return true;
    }

    private static boolean within(int v, int least, int most) {
        return v >= least && v <= most;
    }

    private static boolean isPlace(int i) {
        return within(i, 0, PLACES - 1);
    }

    private static boolean isDeed(int deed) {
        return within(deed, 0, DEEDS - 1);
    }

    private static boolean isKind(int kind) {
        return within(kind, 0, KINDS - 1);
    }

    private static boolean isSpot(int spot) {
        return within(spot, 0, SPOTS - 1);
    }

    private static boolean isSheet(int s) {
        return within(s, 0, SHEETS - 1);
    }

    /** The most that change() may put. */
    private static int mostOf(int what) {
        switch (what) {
            case 0: return KINDS - 1;
            case 1: return MOST;
            case 2: return MOST;
            case 5: return MOST_SERVED;
            default: return 1;
        }
    }

    private static int grudgeAfter(int grudge, int deed) {
        return Math.max(0, Math.min(MOST, grudge + DEED_CHANGES[deed]));
    }

    /** Whether a kind is another one or under it. */
    private static boolean isUnder(int kind, int other) {
        int at = kind;
        for (int k = 0; k < KINDS && at >= 0; k++) {
            if (at == other) {
                return true;
            }
            at = ABOVE[at];
        }
        return false;
    }

    /** The greatest divisor of both; most is above 0 and least isn't above it. */
    private static int commonDivisor(int least, int most) {
        for (int d = most; d > 1; d--) {
            if (least % d == 0 && most % d == 0) {
                return d;
            }
        }
        return 1;
    }

    private static long power(int base, int n) {
        long product = 1;
        for (int k = 0; k < n; k++) {
            product *= base;
        }
        return product;
    }

    /** One dish, with what its kind makes of the mood. */
    private static final class Dish {
        private int kind;
        private int thick;
        private int salt;
        private int split;
        private int off;
        private int served;

        private void renew(int newKind) {
            kind = newKind;
            thick = FIRST_THICK;
            salt = FIRST_SALT;
            split = 0;
            off = 0;
            served = 0;
        }

        private void take(Dish other) {
            kind = other.kind;
            thick = other.thick;
            salt = other.salt;
            split = other.split;
            off = other.off;
            served = other.served;
        }

        private void put(int what, int v) {
            switch (what) {
                case 0: kind = v; break;
                case 1: thick = v; break;
                case 2: salt = v; break;
                case 3: split = v; break;
                case 4: off = v; break;
                case 5: served = v; break;
                default: break;
            }
        }

        private boolean isCooking() {
            return off == 0 && split == 0;
        }

        private int needs(int heat) {
            int sauce = 10;
            int cream = sauce + 20;
            int glaze = thick / 4;
            switch (kind) {
                case SAUCE: return sauce;
                case CREAM: return cream;
                case CUSTARD: return cream + heat;
                case GLAZE: return glaze;
                case DARK: return glaze + 25;
                default: return 0;
            }
        }

        private int thickens(int grudge, int heat, int deed) {
            int sauce = grudge / 10;
            int cream = sauce + 1;
            int stock = sauce / 2;
            int glaze = stock + heat;
            switch (kind) {
                case SAUCE: return sauce;
                case CREAM: return cream;
                case CUSTARD: return 2 * cream;
                case STOCK: return stock;
                case GLAZE: return glaze;
                case DARK: return deed == DRAWER ? glaze + 10 : glaze;
                default: return 0;
            }
        }

        private int salts(int deed) {
            int sauce = deed == SALTING ? 5 : 0;
            int stock = sauce + 1;
            switch (kind) {
                case SAUCE: return sauce;
                case CREAM: return sauce;
                case STOCK: return stock;
                case GLAZE: return 2 * stock;
                case DARK: return 2 * stock;
                case SALAD: return deed == SARCASM ? sauce + 3 : sauce;
                default: return 0;
            }
        }

        private int burns() {
            int sauce = 80;
            int glaze = sauce + 19;
            switch (kind) {
                case SAUCE: return sauce;
                case CREAM: return sauce - 10;
                case CUSTARD: return sauce - 10;
                case STOCK: return glaze;
                case GLAZE: return glaze;
                case DARK: return glaze - 9;
                default: return 99;
            }
        }

        private int gives(int grudge) {
            if (split == 1) {
                return 0;
            }
            int sauce = Math.max(0, thick - Math.abs(salt - 30));
            int cream = sauce + grudge / 5;
            int stock = sauce / 2;
            int glaze = stock + 20;
            switch (kind) {
                case SAUCE: return sauce;
                case CREAM: return cream;
                case CUSTARD: return cream;
                case STOCK: return stock;
                case GLAZE: return glaze;
                case DARK: return 2 * glaze;
                default: return 10;
            }
        }

        private void cook(int grudge, int heat, int deed) {
            if (grudge < needs(heat)) {
                split = 1;
                return;
            }
            thick = Math.min(MOST, thick + thickens(grudge, heat, deed));
            salt = Math.min(MOST, salt + salts(deed));
            if (thick > burns()) {
                split = 1;
            }
        }

        private void startAnew() {
            served = Math.min(MOST_SERVED, served + 1);
            thick = FIRST_THICK;
            salt = FIRST_SALT;
            split = 0;
        }
    }

    /** All that an image keeps. */
    private static final class Kitchen {
        private int grudge = 50;
        private int heat = 3;
        private int stars = 0;
        private int step = 0;
        private int z = 1;
        private int dishCount = 0;
        private final int[] list = new int[PLACES];
        private final int[] spots = new int[SPOTS];
        private final Dish[] dishes = new Dish[DISHES];

        private Kitchen() {
            Arrays.fill(spots, -1);
            for (int d = 0; d < DISHES; d++) {
                dishes[d] = new Dish();
            }
        }

        private void takeAll(Kitchen other) {
            takeMood(other);
            stars = other.stars;
            z = other.z;
            System.arraycopy(other.spots, 0, spots, 0, SPOTS);
            dishCount = other.dishCount;
            for (int d = 0; d < dishCount; d++) {
                dishes[d].take(other.dishes[d]);
            }
        }

        /** What makes the grudge go on, and no dish. */
        private void takeMood(Kitchen other) {
            grudge = other.grudge;
            heat = other.heat;
            step = other.step;
            System.arraycopy(other.list, 0, list, 0, PLACES);
            dishCount = 0;
        }

        /** The mood and a single dish, as number 0: no other one touches it. */
        private void takeOne(Kitchen other, int dish) {
            takeMood(other);
            dishes[0].take(other.dishes[dish]);
            dishCount = 1;
        }

        /** There must be room for one. */
        private Dish addDish(int kind) {
            Dish added = dishes[dishCount];
            added.renew(kind);
            dishCount++;
            return added;
        }

        private int deedNow() {
            return list[step % PLACES];
        }

        private void passSteps(int n) {
            for (int k = 0; k < n; k++) {
                passStep();
            }
        }

        private void passStep() {
            int deed = deedNow();
            grudge = grudgeAfter(grudge, deed);
            for (int d = 0; d < dishCount; d++) {
                if (dishes[d].isCooking()) {
                    dishes[d].cook(grudge, heat, deed);
                }
            }
            step = Math.min(MOST_STEP, step + 1);
        }

        private void serviceStep() {
            int first = draw();
            int second = draw();
            list[step % PLACES] = first % DEEDS;
            passStep();
            int dish = second % DISHES;
            if (dish < dishCount && dishes[dish].off == 0) {
                serveDish(dish);
            }
        }

        private int draw() {
            z = z * 1103515245 + 12345;
            return z >>> 8;
        }

        private int serveDish(int dish) {
            int given = given(dish);
            stars = Math.min(MOST_STARS, stars + given);
            dishes[dish].startAnew();
            return given;
        }

        private int given(int dish) {
            return dishes[dish].gives(grudge);
        }

        private int told(int dish, int what) {
            Dish d = dishes[dish];
            switch (what) {
                case 0: return d.kind;
                case 1: return d.thick;
                case 2: return d.salt;
                case 3: return d.split;
                case 4: return d.off;
                case 5: return d.served;
                case 6: return d.needs(heat);
                case 7: return d.thickens(grudge, heat, deedNow());
                case 8: return d.salts(deedNow());
                case 9: return d.burns();
                default: return d.gives(grudge);
            }
        }

        private int splitSet() {
            int set = 0;
            for (int d = 0; d < dishCount; d++) {
                set |= dishes[d].split << d;
            }
            return set;
        }

        private int offSet() {
            int set = 0;
            for (int d = 0; d < dishCount; d++) {
                set |= dishes[d].off << d;
            }
            return set;
        }

        /** Those that the grudge, as it is, would split. */
        private int endangeredSet() {
            int set = 0;
            for (int d = 0; d < dishCount; d++) {
                if (dishes[d].isCooking() && grudge < dishes[d].needs(heat)) {
                    set |= 1 << d;
                }
            }
            return set;
        }

        private int givenForAll() {
            int sum = 0;
            for (int d = 0; d < dishCount; d++) {
                sum += given(d);
            }
            return sum;
        }

        /** The dish that a critic would give most for; -1: there is none. */
        private int dearest() {
            int choice = -1;
            int most = -1;
            for (int d = 0; d < dishCount; d++) {
                if (given(d) > most) {
                    most = given(d);
                    choice = d;
                }
            }
            return choice;
        }

        /** How many deeds, done alone now, leave the grudge that a dish needs. */
        private int harmlessDeeds(int dish) {
            int needed = dishes[dish].needs(heat);
            int harmless = 0;
            for (int deed = 0; deed < DEEDS; deed++) {
                if (grudgeAfter(grudge, deed) >= needed) {
                    harmless++;
                }
            }
            return harmless;
        }

        private int heldSpots() {
            int held = 0;
            for (int dish : spots) {
                if (dish >= 0) {
                    held++;
                }
            }
            return held;
        }
    }

    /** A row of numbers of some bits; of none while it is missing. */
    private static final class Sheet {
        private int bits = 0;
        private int length = 0;
        private final int[] row = new int[ROW];

        private boolean isMissing() {
            return bits == 0;
        }

        private void renew(int newBits, int newLength) {
            bits = newBits;
            length = newLength;
            Arrays.fill(row, 0);
        }

        /** The lowest bits stand for a signed number, so that -1 is told in any width. */
        private void put(int i, int v) {
            if (bits == 8) {
                row[i] = (byte) v;
            } else if (bits == 16) {
                row[i] = (short) v;
            } else {
                row[i] = v;
            }
        }

        private boolean hasPart(int from, int n) {
            return from >= 0 && n >= 0 && n <= length && from <= length - n;
        }
    }

    /** The tape, and what reads it as a text. */
    private static final class Tape {
        private static final int WORD = 0;
        private static final int NUMBER = 1;
        private static final int SIGN = 2;
        private static final int END = 3;
        private static final int WRONG = 4;
        private static final int TOO_GREAT = 1000;

        private final byte[] bytes = new byte[TAPE];
        private int length = 0;
        // The token that is read now: its sort, its first byte, the byte behind it.
        private int token = END;
        private int start = 0;
        private int end = 0;

        private void append(int number, int n) {
            for (int k = n - 1; k >= 0; k--) {
                bytes[length] = (byte) (number >>> (8 * k));
                length++;
            }
        }

        /**
         * How many items it tells a kitchen; -1 less the place of its fault, if it has one
         * (then the kitchen is spoilt: it must be one that can be thrown away).
         */
        private int readText(Kitchen kitchen) {
            end = 0;
            nextToken();
            for (int items = 1; items <= TAPE; items++) {
                if (!readItem(kitchen)) {
                    return -1 - start;
                }
                if (token == END) {
                    return items;
                }
                if (token != SIGN) {
                    return -1 - start;
                }
                nextToken();
            }
            return -1 - start;
        }

        /** Whether an item stands here; if not, the token that is wrong stays the one read. */
        private boolean readItem(Kitchen kitchen) {
            int kind = kindNamed();
            if (kind >= 0) {
                return kitchen.dishCount < DISHES && readDish(kitchen.addDish(kind));
            }
            if (skipWord("deed")) {
                return readDeed(kitchen);
            }
            if (skipWord("grudge")) {
                kitchen.grudge = readNumber(MOST);
                return kitchen.grudge >= 0;
            }
            if (skipWord("heat")) {
                kitchen.heat = readNumber(MOST_HEAT);
                return kitchen.heat >= 0;
            }
            return false;
        }

        private boolean readDish(Dish dish) {
            nextToken();
            if (skipWord("thick")) {
                dish.thick = readNumber(MOST);
                if (dish.thick < 0) {
                    return false;
                }
            }
            if (skipWord("salt")) {
                dish.salt = readNumber(MOST);
                if (dish.salt < 0) {
                    return false;
                }
            }
            dish.off = skipWord("off") ? 1 : 0;
            dish.split = skipWord("split") ? 1 : 0;
            return true;
        }

        private boolean readDeed(Kitchen kitchen) {
            int place = readNumber(PLACES - 1);
            if (place < 0) {
                return false;
            }
            int deed = readNumber(DEEDS - 1);
            if (deed < 0) {
                return false;
            }
            kitchen.list[place] = deed;
            return true;
        }

        /** The number that stands here, and on to the next token; -1: none up to most does. */
        private int readNumber(int most) {
            if (token != NUMBER) {
                return -1;
            }
            int number = valueOfToken();
            if (number > most) {
                return -1;
            }
            nextToken();
            return number;
        }

        private boolean skipWord(String word) {
            if (!isWord(word)) {
                return false;
            }
            nextToken();
            return true;
        }

        private int kindNamed() {
            if (isWord("sauce")) {
                return SAUCE;
            }
            if (isWord("cream")) {
                return CREAM;
            }
            if (isWord("stock")) {
                return STOCK;
            }
            if (isWord("glaze")) {
                return GLAZE;
            }
            if (isWord("dark")) {
                return DARK;
            }
            if (isWord("salad")) {
                return SALAD;
            }
            return isWord("custard") ? CUSTARD : -1;
        }

        private boolean isWord(String word) {
            if (token != WORD || end - start != word.length()) {
                return false;
            }
            for (int k = 0; k < word.length(); k++) {
                if (bytes[start + k] != word.charAt(k)) {
                    return false;
                }
            }
            return true;
        }

        private void nextToken() {
            start = end;
            while (start < length && bytes[start] == ' ') {
                start++;
            }
            if (start >= length) {
                token = END;
                end = start;
                return;
            }
            token = sortOf(bytes[start]);
            end = start + 1;
            boolean mayGoOn = token == WORD || token == NUMBER;
            while (mayGoOn && end < length && sortOf(bytes[end]) == token) {
                end++;
            }
        }

        private static int sortOf(byte b) {
            if (b >= 'a' && b <= 'z') {
                return WORD;
            }
            if (b >= '0' && b <= '9') {
                return NUMBER;
            }
            return b == ';' ? SIGN : WRONG;
        }

        /** What the digits of the token tell, held below what would wrap around. */
        private int valueOfToken() {
            int value = 0;
            for (int k = start; k < end; k++) {
                value = Math.min(TOO_GREAT, value * 10 + bytes[k] - '0');
            }
            return value;
        }
    }
}
