/**
 * A sea with a tower that warns of itself, and the ships that keep off it.
 * Every wrong call answers a finding (a number below -1000000000); none throws.
 */
public final class TowerWarns {
    private static final int BEYOND = -1000000001;
    private static final int FULL = -1000000002;
    private static final int KIND = -1000000003;
    private static final int NONE = -1000000004;
    private static final int STATE = -1000000005;
    private static final int MISSING = -1000000006;
    private static final int SIZE = -1000000007;
    private static final int FINDINGS = 7;
    private static final int NOTHING = 0;

    private static final int LAST_COLUMN = 19;
    private static final int LAST_ROW = 9;
    private static final int LAST_KIND = 5;
    private static final int MOST_SHIPS = 6;
    private static final int DAY = 12;
    private static final int LAST_HOUR = 99999;
    private static final int ALL_DAY = 4095;
    private static final int MOST_REACH = 9;
    private static final int MOST_COST = 9999;
    private static final int MOST_COST_OF_ALL = MOST_SHIPS * MOST_COST;
    private static final int FARTHEST = 99;
    private static final int MOST_AHEAD = 100;
    private static final int NEVER = MOST_AHEAD + 1;
    private static final int MOST_LAMP_AHEAD = 60;
    private static final int MOST_SITE_AHEAD = 40;
    private static final int MOST_BYTES = 120;
    private static final int SHEETS = 4;
    private static final int MOST_NUMBERS = 40;

    private final Ship[] kinds;
    private final Sea present;
    private final Sea kept;
    /** Looks ahead and what-ifs go here: made once, because what a call makes is never given back. */
    private final Sea trial;
    private boolean somethingKept;
    private final Tape tape;
    private final SeaText text;
    private final Sheet[] sheets;
    private final int[] findings;

    public TowerWarns() {
        kinds = new Ship[] {new Ship(), new Steamer(), new Boat(), new Drifter(), new Mail(), new Gig()};
        present = new Sea(kinds[0]);
        kept = new Sea(kinds[0]);
        trial = new Sea(kinds[0]);
        somethingKept = false;
        tape = new Tape();
        text = new SeaText(tape, kinds);
        sheets = new Sheet[] {new Sheet(), new Sheet(), new Sheet(), new Sheet()};
        findings = new int[FINDINGS];
    }

    // ---- the tower

    public int tower(int column, int row) {
        if (!isWithin(column, 0, LAST_COLUMN) || !isWithin(row, 0, LAST_ROW)) {
            return found(BEYOND);
        }
        int before = present.towerPlace();
        present.towerColumn = column;
        present.towerRow = row;
        return before;
    }

    public int lamp(int set) {
        if (!isWithin(set, 0, ALL_DAY)) {
            return found(BEYOND);
        }
        int before = present.lamp;
        present.lamp = set;
        return before;
    }

    public int reach(int v) {
        if (!isWithin(v, 0, MOST_REACH)) {
            return found(BEYOND);
        }
        int before = present.reach;
        present.reach = v;
        return before;
    }

    public int now(int what) {
        switch (what) {
            case 0: return present.hour;
            case 1: return present.hourOfDay();
            case 2: return asNumber(present.isNight());
            case 3: return asNumber(present.burns());
            case 4: return present.towerPlace();
            case 5: return present.reach;
            case 6: return present.lostOnes();
            case 7: return present.onesBy();
            default: return found(BEYOND);
        }
    }

    // ---- ships

    public int ship(int kind, int row) {
        if (!isKind(kind) || !isWithin(row, 0, LAST_ROW)) {
            return found(BEYOND);
        }
        if (present.isFull()) {
            return found(FULL);
        }
        present.launch(kinds[kind], 0, row);
        return present.size - 1;
    }

    public int of(int ship, int what) {
        if (!isShip(ship) || !isWithin(what, 0, 11)) {
            return found(BEYOND);
        }
        Vessel vessel = present.vessels[ship];
        return what <= Vessel.LAST_FIGURE ? vessel.figure(what) : present.bearing(vessel, what);
    }

    public int set(int ship, int what, int v) {
        if (!isShip(ship) || !isWithin(what, Vessel.COLUMN, Vessel.NEAR)) {
            return found(BEYOND);
        }
        if (!isWithin(v, 0, Vessel.mostOf(what))) {
            return found(BEYOND);
        }
        Vessel vessel = present.vessels[ship];
        int before = vessel.figure(what);
        vessel.put(what, v);
        return before;
    }

    public int turn(int ship, int kind) {
        if (!isShip(ship) || !isKind(kind)) {
            return found(BEYOND);
        }
        Vessel vessel = present.vessels[ship];
        int before = vessel.kind.number();
        vessel.kind = kinds[kind];
        return before;
    }

    public int as(int ship, int kind) {
        if (!isShip(ship) || !isKind(kind)) {
            return found(BEYOND);
        }
        Vessel vessel = present.vessels[ship];
        return vessel.kind.isUnder(kind) ? vessel.cost : found(KIND);
    }

    // ---- hours

    public int hours(int n) {
        if (!isWithin(n, 1, MOST_AHEAD)) {
            return found(BEYOND);
        }
        if (present.hour + n > LAST_HOUR) {
            return found(STATE);
        }
        present.pass(n);
        return present.onesBy();
    }

    public int on(int ship, int n, int what) {
        if (!isShip(ship) || !isWithin(n, 0, MOST_AHEAD) || !isWithin(what, 0, 3)) {
            return found(BEYOND);
        }
        tryAlone(ship);
        trial.pass(n);
        return trial.vessels[0].figure(Vessel.COLUMN + what);
    }

    public int then(int n, int what) {
        if (!isWithin(n, 0, MOST_AHEAD) || !isWithin(what, 0, 1)) {
            return found(BEYOND);
        }
        trial.become(present);
        trial.pass(n);
        return what == 0 ? trial.lostOnes() : trial.onesBy();
    }

    public int comes(int ship) {
        if (!isShip(ship)) {
            return found(BEYOND);
        }
        tryAlone(ship);
        int n = hoursUntilBy();
        return n == NEVER ? found(NONE) : n;
    }

    public int wrecks(int ship) {
        if (!isShip(ship)) {
            return found(BEYOND);
        }
        tryAlone(ship);
        int n = hoursUntilEnd();
        return trial.vessels[0].lost ? n : found(NONE);
    }

    // ---- what is best

    public int row(int ship) {
        int amiss = amissUnderWay(ship);
        if (amiss != NOTHING) {
            return found(amiss);
        }
        int best = NONE;
        int soonest = NEVER;
        for (int row = 0; row <= LAST_ROW; row++) {
            tryAlone(ship);
            trial.vessels[0].row = row;
            int n = hoursUntilBy();
            if (n < soonest) {
                soonest = n;
                best = row;
            }
        }
        return best == NONE ? found(NONE) : best;
    }

    public int kind(int ship) {
        int amiss = amissUnderWay(ship);
        if (amiss != NOTHING) {
            return found(amiss);
        }
        int best = NONE;
        int soonest = NEVER;
        for (int kind = 0; kind <= LAST_KIND; kind++) {
            tryAlone(ship);
            trial.vessels[0].kind = kinds[kind];
            int n = hoursUntilBy();
            if (n < soonest) {
                soonest = n;
                best = kind;
            }
        }
        return best == NONE ? found(NONE) : best;
    }

    public int shine(int n) {
        if (!isWithin(n, 1, MOST_LAMP_AHEAD)) {
            return found(BEYOND);
        }
        int best = 0;
        int fewest = MOST_SHIPS + 1;
        for (int reach = 0; reach <= MOST_REACH; reach++) {
            trial.become(present);
            trial.reach = reach;
            trial.pass(n);
            int lost = Integer.bitCount(trial.lostOnes());
            if (lost < fewest) {
                fewest = lost;
                best = reach;
            }
        }
        return best;
    }

    public int hour(int n) {
        if (!isWithin(n, 1, MOST_LAMP_AHEAD)) {
            return found(BEYOND);
        }
        int best = 0;
        int least = MOST_COST_OF_ALL + 1;
        for (int hour = 0; hour < DAY; hour++) {
            trial.become(present);
            trial.lamp = present.lamp ^ (1 << hour);
            trial.pass(n);
            int cost = trial.costOfAll();
            if (cost < least) {
                least = cost;
                best = hour;
            }
        }
        return best;
    }

    public int site(int n) {
        if (!isWithin(n, 1, MOST_SITE_AHEAD)) {
            return found(BEYOND);
        }
        int best = 0;
        int fewest = MOST_SHIPS + 1;
        int least = MOST_COST_OF_ALL + 1;
        for (int place = 0; place <= 10 * LAST_COLUMN + LAST_ROW; place++) {
            trial.become(present);
            trial.towerColumn = place / 10;
            trial.towerRow = place % 10;
            trial.pass(n);
            int lost = Integer.bitCount(trial.lostOnes());
            int cost = trial.costOfAll();
            if (lost < fewest || (lost == fewest && cost < least)) {
                fewest = lost;
                least = cost;
                best = place;
            }
        }
        return best;
    }

    public int nearest(int n) {
        if (!isWithin(n, 0, MOST_AHEAD)) {
            return found(BEYOND);
        }
        if (present.size == 0) {
            return found(NONE);
        }
        trial.become(present);
        trial.pass(n);
        return trial.nearestOne();
    }

    // ---- the text

    public int feed(int bytes, int n) {
        if (!isWithin(n, 1, 4)) {
            return found(BEYOND);
        }
        if (tape.length + n > MOST_BYTES) {
            return found(FULL);
        }
        for (int i = n - 1; i >= 0; i--) {
            tape.add((byte) (bytes >>> (8 * i)));
        }
        return tape.length;
    }

    public int wipe() {
        return tape.empty();
    }

    public int sea() {
        trial.become(present);
        int items = text.tell(trial);
        if (items >= 0) {
            present.become(trial);
        }
        tape.empty();
        return items;
    }

    // ---- sheets

    public int sheet(int s, int bits, int n) {
        if (!isSheet(s) || (bits != 0 && bits != 8 && bits != 16 && bits != 64)) {
            return found(BEYOND);
        }
        if (n < 0) {
            return found(SIZE);
        }
        if (n > MOST_NUMBERS) {
            return found(BEYOND);
        }
        sheets[s].lay(bits, bits == 0 ? 0 : n);
        return sheets[s].size;
    }

    public long write(int s, int i, long v) {
        int amiss = amissInSheet(s);
        if (amiss != NOTHING) {
            return found(amiss);
        }
        Sheet sheet = sheets[s];
        if (!isWithin(i, 0, sheet.size - 1)) {
            return found(BEYOND);
        }
        long before = sheet.at(i);
        sheet.put(i, v);
        return before;
    }

    public int copy(int s, int from, int t, int to, int n) {
        if (!isSheet(s) || !isSheet(t)) {
            return found(BEYOND);
        }
        Sheet source = sheets[s];
        Sheet target = sheets[t];
        if (source.isMissing() || target.isMissing()) {
            return found(MISSING);
        }
        if (source.bits != target.bits) {
            return found(KIND);
        }
        if (!source.hasRange(from, n) || !target.hasRange(to, n)) {
            return found(BEYOND);
        }
        System.arraycopy(source.numbers, from, target.numbers, to, n);
        return n;
    }

    public int lays(int s) {
        int amiss = amissInSheet(s);
        if (amiss != NOTHING) {
            return found(amiss);
        }
        Sheet sheet = sheets[s];
        int came = 0;
        for (int i = 0; i < sheet.size && isShip(i); i++) {
            long number = sheet.at(i);
            if (number >= 0 && number <= LAST_ROW) {
                present.vessels[i].row = (int) number;
                came++;
            }
        }
        return came;
    }

    public int book(int s, int ship) {
        int amiss = amissInSheet(s);
        if (amiss != NOTHING) {
            return found(amiss);
        }
        Sheet sheet = sheets[s];
        if (!isShip(ship)) {
            return found(BEYOND);
        }
        tryAlone(ship);
        for (int i = 0; i < sheet.size; i++) {
            sheet.put(i, trial.vessels[0].row);
            trial.pass(1);
        }
        return sheet.size;
    }

    public int read(int s, int ship) {
        int amiss = amissInSheet(s);
        if (amiss != NOTHING) {
            return found(amiss);
        }
        Sheet sheet = sheets[s];
        if (!isShip(ship)) {
            return found(BEYOND);
        }
        int pairs = 0;
        for (int kind = 0; kind <= LAST_KIND; kind++) {
            for (int reach = 0; reach <= MOST_REACH; reach++) {
                tryAlone(ship);
                trial.vessels[0].kind = kinds[kind];
                trial.reach = reach;
                if (goesAsTold(sheet)) {
                    pairs++;
                }
            }
        }
        return pairs;
    }

    // ---- images

    public int image() {
        kept.become(present);
        somethingKept = true;
        return 1;
    }

    public int undo() {
        if (!somethingKept) {
            return found(NONE);
        }
        present.become(kept);
        return present.size;
    }

    public int tear() {
        int before = asNumber(somethingKept);
        somethingKept = false;
        return before;
    }

    public int count(int what) {
        switch (what) {
            case 0: return present.size;
            case 1: return tape.length;
            case 2: return Integer.bitCount(present.lamp);
            case 3: return present.costOfAll();
            default: return found(BEYOND);
        }
    }

    public int status(int which) {
        if (!isWithin(which, -1, FINDINGS - 1)) {
            return found(BEYOND);
        }
        if (which >= 0) {
            return findings[which];
        }
        int all = 0;
        for (int i = 0; i < FINDINGS; i++) {
            all += findings[i];
        }
        return all;
    }

    // ---- what the calls share

    private int found(int finding) {
        int which = BEYOND - finding;
        if (isWithin(which, 0, FINDINGS - 1)) {
            findings[which]++;
        }
        return finding;
    }

    private boolean isShip(int ship) {
        return ship >= 0 && ship < present.size;
    }

    private int amissUnderWay(int ship) {
        if (!isShip(ship)) {
            return BEYOND;
        }
        return present.vessels[ship].isUnderWay() ? NOTHING : STATE;
    }

    private int amissInSheet(int s) {
        if (!isSheet(s)) {
            return BEYOND;
        }
        return sheets[s].isMissing() ? MISSING : NOTHING;
    }

    private static boolean isKind(int kind) {
        return isWithin(kind, 0, LAST_KIND);
    }

    private static boolean isSheet(int s) {
        return isWithin(s, 0, SHEETS - 1);
    }

    private static boolean isWithin(int v, int least, int most) {
        return v >= least && v <= most;
    }

    private static int asNumber(boolean yes) {
        return yes ? 1 : 0;
    }

    /** No ship minds another one, so what one does ahead it does with nobody else there too. */
    private void tryAlone(int ship) {
        trial.becomeWithOne(present, ship);
    }

    /** The trial's one ship goes until it is LOST or BY, but not further than may be looked ahead: in how many hours. */
    private int hoursUntilEnd() {
        int n = 0;
        while (n < MOST_AHEAD && trial.vessels[0].isUnderWay()) {
            trial.pass(1);
            n++;
        }
        return n;
    }

    /** As hoursUntilEnd(), but NEVER if it isn't BY then. */
    private int hoursUntilBy() {
        int n = hoursUntilEnd();
        return trial.vessels[0].by ? n : NEVER;
    }

    private boolean goesAsTold(Sheet sheet) {
        for (int i = 0; i < sheet.size; i++) {
            if (sheet.at(i) != trial.vessels[0].row) {
                return false;
            }
            trial.pass(1);
        }
        return true;
    }

    // ---- kinds: each tells only how it is unlike the one above it

    private static class Ship {
        int number() {
            return 0;
        }

        String title() {
            return "ship";
        }

        boolean isUnder(int kind) {
            return kind == 0;
        }

        boolean sees(int distance, boolean night, boolean burns, int reach) {
            return night ? burns && distance <= reach : distance <= 3;
        }

        int speed(int hourOfDay, boolean night) {
            return 1;
        }

        int keepsOff(int distance) {
            return 1;
        }

        boolean stands(int distance, boolean night, int cost) {
            return false;
        }
    }

    private static class Steamer extends Ship {
        int number() {
            return 1;
        }

        String title() {
            return "steamer";
        }

        boolean isUnder(int kind) {
            return kind == 1 || super.isUnder(kind);
        }

        boolean sees(int distance, boolean night, boolean burns, int reach) {
            return distance == 1 || super.sees(distance, night, burns, reach);
        }

        int speed(int hourOfDay, boolean night) {
            return super.speed(hourOfDay, night) + 1;
        }

        boolean stands(int distance, boolean night, int cost) {
            return night && distance == 1;
        }
    }

    private static class Boat extends Ship {
        int number() {
            return 2;
        }

        String title() {
            return "boat";
        }

        boolean isUnder(int kind) {
            return kind == 2 || super.isUnder(kind);
        }

        boolean sees(int distance, boolean night, boolean burns, int reach) {
            return night ? distance <= 2 : super.sees(distance, night, burns, reach);
        }

        int keepsOff(int distance) {
            return super.keepsOff(distance) + 1;
        }
    }

    private static final class Drifter extends Ship {
        int number() {
            return 3;
        }

        String title() {
            return "drifter";
        }

        boolean isUnder(int kind) {
            return kind == 3 || super.isUnder(kind);
        }

        boolean sees(int distance, boolean night, boolean burns, int reach) {
            return false;
        }

        int speed(int hourOfDay, boolean night) {
            return hourOfDay % 2 == 0 ? 1 : 0;
        }

        int keepsOff(int distance) {
            return 0;
        }
    }

    private static final class Mail extends Steamer {
        int number() {
            return 4;
        }

        String title() {
            return "mail";
        }

        boolean isUnder(int kind) {
            return kind == 4 || super.isUnder(kind);
        }

        boolean sees(int distance, boolean night, boolean burns, int reach) {
            return super.sees(distance, night, burns, reach + 2);
        }

        int speed(int hourOfDay, boolean night) {
            return super.speed(hourOfDay, night) + 1;
        }

        int keepsOff(int distance) {
            return distance > 3 ? 0 : super.keepsOff(distance);
        }

        boolean stands(int distance, boolean night, int cost) {
            return cost < 5 && super.stands(distance, night, cost);
        }
    }

    private static final class Gig extends Boat {
        int number() {
            return 5;
        }

        String title() {
            return "gig";
        }

        boolean isUnder(int kind) {
            return kind == 5 || super.isUnder(kind);
        }

        boolean sees(int distance, boolean night, boolean burns, int reach) {
            return !night || super.sees(distance, night, burns, reach);
        }

        int speed(int hourOfDay, boolean night) {
            return super.speed(hourOfDay, night) + (night ? 0 : 1);
        }

        int keepsOff(int distance) {
            return super.keepsOff(distance) - 3;
        }
    }

    // ---- one ship

    private static final class Vessel {
        static final int COLUMN = 1;
        static final int ROW = 2;
        static final int COST = 3;
        static final int NEAR = 4;
        static final int LOST = 5;
        static final int BY = 6;
        static final int LAST_FIGURE = 6;

        Ship kind;
        int column;
        int row;
        int cost;
        int near;
        boolean lost;
        boolean by;

        Vessel(Ship kind) {
            this.kind = kind;
        }

        void begin(Ship newKind, int newColumn, int newRow) {
            kind = newKind;
            column = newColumn;
            row = newRow;
            cost = 0;
            near = FARTHEST;
            lost = false;
            by = false;
        }

        void become(Vessel other) {
            kind = other.kind;
            column = other.column;
            row = other.row;
            cost = other.cost;
            near = other.near;
            lost = other.lost;
            by = other.by;
        }

        boolean isUnderWay() {
            return !lost && !by;
        }

        int figure(int what) {
            switch (what) {
                case COLUMN: return column;
                case ROW: return row;
                case COST: return cost;
                case NEAR: return near;
                case LOST: return asNumber(lost);
                case BY: return asNumber(by);
                default: return kind.number();
            }
        }

        static int mostOf(int what) {
            switch (what) {
                case COLUMN: return LAST_COLUMN;
                case ROW: return LAST_ROW;
                case COST: return MOST_COST;
                default: return FARTHEST;
            }
        }

        void put(int what, int v) {
            switch (what) {
                case COLUMN:
                    column = v;
                    lost = false;
                    by = false;
                    break;
                case ROW:
                    row = v;
                    break;
                case COST:
                    cost = v;
                    break;
                default:
                    near = v;
                    break;
            }
        }

        void pay() {
            cost = Math.min(cost + 1, MOST_COST);
        }
    }

    // ---- all that an image keeps

    private static final class Sea {
        int hour;
        int towerColumn;
        int towerRow;
        int lamp;
        int reach;
        final Vessel[] vessels;
        int size;

        Sea(Ship anyKind) {
            hour = 0;
            towerColumn = 10;
            towerRow = 5;
            lamp = 4032;
            reach = 4;
            size = 0;
            vessels = new Vessel[MOST_SHIPS];
            for (int i = 0; i < MOST_SHIPS; i++) {
                vessels[i] = new Vessel(anyKind);
            }
        }

        void become(Sea other) {
            becomeEmptied(other);
            for (int i = 0; i < other.size && i < MOST_SHIPS; i++) {
                vessels[i].become(other.vessels[i]);
            }
            size = other.size;
        }

        void becomeWithOne(Sea other, int ship) {
            becomeEmptied(other);
            if (ship >= 0 && ship < other.size) {
                vessels[0].become(other.vessels[ship]);
                size = 1;
            }
        }

        private void becomeEmptied(Sea other) {
            hour = other.hour;
            towerColumn = other.towerColumn;
            towerRow = other.towerRow;
            lamp = other.lamp;
            reach = other.reach;
            size = 0;
        }

        boolean isFull() {
            return size >= MOST_SHIPS;
        }

        void launch(Ship kind, int column, int row) {
            if (!isFull()) {
                vessels[size].begin(kind, column, row);
                size++;
            }
        }

        int hourOfDay() {
            return hour % DAY;
        }

        boolean isNight() {
            return isNightAt(hourOfDay());
        }

        boolean burns() {
            return burnsAt(hourOfDay());
        }

        private static boolean isNightAt(int hourOfDay) {
            return hourOfDay >= 6;
        }

        private boolean burnsAt(int hourOfDay) {
            return (lamp >> hourOfDay & 1) == 1;
        }

        int towerPlace() {
            return 10 * towerColumn + towerRow;
        }

        int distanceOf(Vessel vessel) {
            return Math.max(Math.abs(vessel.column - towerColumn), Math.abs(vessel.row - towerRow));
        }

        /** What a ship's kind makes of where it is now (7 to 11 of what a ship can be asked). */
        int bearing(Vessel vessel, int what) {
            int distance = distanceOf(vessel);
            boolean night = isNight();
            switch (what) {
                case 7: return distance;
                case 8: return asNumber(vessel.kind.sees(distance, night, burns(), reach));
                case 9: return vessel.kind.speed(hourOfDay(), night);
                case 10: return 100 + vessel.kind.keepsOff(distance);
                default: return asNumber(vessel.kind.stands(distance, night, vessel.cost));
            }
        }

        /** A ship goes all its hours before the next one does: none minds another, and an ended one costs nothing. */
        void pass(int n) {
            for (int i = 0; i < size && i < MOST_SHIPS; i++) {
                Vessel vessel = vessels[i];
                for (int h = 0; h < n && vessel.isUnderWay(); h++) {
                    passHour(vessel, (hour + h) % DAY);
                }
            }
            hour += n;
        }

        private void passHour(Vessel vessel, int hourOfDay) {
            Ship kind = vessel.kind;
            int distance = distanceOf(vessel);
            boolean night = isNightAt(hourOfDay);
            if (towerColumn >= vessel.column && kind.sees(distance, night, burnsAt(hourOfDay), reach)) {
                if (kind.stands(distance, night, vessel.cost)) {
                    vessel.pay();
                    return;
                }
                turnAway(vessel, kind.keepsOff(distance));
            }
            advance(vessel, kind.speed(hourOfDay, night));
        }

        private void turnAway(Vessel vessel, int rows) {
            int before = vessel.row;
            if (before <= towerRow) {
                vessel.row = Math.max(0, Math.min(towerRow, before - rows));
            } else {
                vessel.row = Math.min(LAST_ROW, Math.max(towerRow, before + rows));
            }
            if (vessel.row != before) {
                vessel.pay();
            }
        }

        private void advance(Vessel vessel, int columns) {
            for (int i = 0; i < columns && vessel.isUnderWay(); i++) {
                vessel.column++;
                if (vessel.column > LAST_COLUMN) {
                    vessel.by = true;
                } else {
                    int distance = distanceOf(vessel);
                    vessel.near = Math.min(vessel.near, distance);
                    vessel.lost = distance == 0;
                }
            }
        }

        int lostOnes() {
            int ones = 0;
            for (int i = 0; i < size && i < MOST_SHIPS; i++) {
                ones |= asNumber(vessels[i].lost) << i;
            }
            return ones;
        }

        int onesBy() {
            int ones = 0;
            for (int i = 0; i < size && i < MOST_SHIPS; i++) {
                ones |= asNumber(vessels[i].by) << i;
            }
            return ones;
        }

        int costOfAll() {
            int cost = 0;
            for (int i = 0; i < size && i < MOST_SHIPS; i++) {
                cost += vessels[i].cost;
            }
            return cost;
        }

        int nearestOne() {
            int best = 0;
            for (int i = 1; i < size && i < MOST_SHIPS; i++) {
                if (vessels[i].near < vessels[best].near) {
                    best = i;
                }
            }
            return best;
        }
    }

    // ---- the text

    private static final class Tape {
        private final byte[] bytes;
        int length;

        Tape() {
            bytes = new byte[MOST_BYTES];
            length = 0;
        }

        void add(byte b) {
            if (length < MOST_BYTES) {
                bytes[length] = b;
                length++;
            }
        }

        int at(int place) {
            return place >= 0 && place < length && place < MOST_BYTES ? bytes[place] & 255 : 0;
        }

        int empty() {
            int before = length;
            length = 0;
            return before;
        }
    }

    /** Reads a text one token ahead; a method that answers false has left the token that can't stand there. */
    private static final class SeaText {
        private static final int END = 0;
        private static final int WORD = 1;
        private static final int NUMBER = 2;
        private static final int SIGN = 3;
        private static final int OTHER = 4;
        private static final int TOO_MUCH = 1000;

        private final Tape tape;
        private final Ship[] kinds;
        private int token;
        private int start;
        private int end;
        private int value;
        private int taken;

        SeaText(Tape tape, Ship[] kinds) {
            this.tape = tape;
            this.kinds = kinds;
        }

        /** How many items came to the sea, or -1 less the place of the fault (the sea is half told then). */
        int tell(Sea sea) {
            end = 0;
            for (int items = 1; items <= MOST_BYTES; items++) {
                next();
                if (!takeItem(sea)) {
                    return -1 - start;
                }
                if (token == END) {
                    return items;
                }
                if (token != SIGN) {
                    return -1 - start;
                }
            }
            return -1 - start;
        }

        private boolean takeItem(Sea sea) {
            if (token != WORD) {
                return false;
            }
            for (int kind = 0; kind < kinds.length; kind++) {
                if (isWord(kinds[kind].title())) {
                    return takeShip(sea, kinds[kind]);
                }
            }
            if (isWord("tower")) {
                return takeTower(sea);
            }
            if (isWord("burns")) {
                return takeLamp(sea, true);
            }
            if (isWord("dark")) {
                return takeLamp(sea, false);
            }
            return isWord("reach") && takeReach(sea);
        }

        private boolean takeShip(Sea sea, Ship kind) {
            if (sea.isFull()) {
                return false;
            }
            next();
            if (!takeNumber(LAST_ROW)) {
                return false;
            }
            int row = taken;
            int column = 0;
            if (token == WORD && isWord("at")) {
                next();
                if (!takeNumber(LAST_COLUMN)) {
                    return false;
                }
                column = taken;
            }
            sea.launch(kind, column, row);
            return true;
        }

        private boolean takeTower(Sea sea) {
            next();
            if (!takeNumber(LAST_COLUMN)) {
                return false;
            }
            sea.towerColumn = taken;
            if (!takeNumber(LAST_ROW)) {
                return false;
            }
            sea.towerRow = taken;
            return true;
        }

        private boolean takeLamp(Sea sea, boolean burns) {
            next();
            if (!takeNumber(DAY - 1)) {
                return false;
            }
            int bit = 1 << taken;
            sea.lamp = burns ? sea.lamp | bit : sea.lamp & ~bit;
            return true;
        }

        private boolean takeReach(Sea sea) {
            next();
            if (!takeNumber(MOST_REACH)) {
                return false;
            }
            sea.reach = taken;
            return true;
        }

        private boolean takeNumber(int most) {
            if (token != NUMBER || value > most) {
                return false;
            }
            taken = value;
            next();
            return true;
        }

        private void next() {
            start = end;
            while (start < tape.length && tape.at(start) == ' ') {
                start++;
            }
            end = start;
            value = 0;
            token = start < tape.length ? sortOf(tape.at(start)) : END;
            if (token == SIGN || token == OTHER) {
                end++;
                return;
            }
            while (end < tape.length && sortOf(tape.at(end)) == token) {
                if (token == NUMBER) {
                    value = Math.min(10 * value + (tape.at(end) - '0'), TOO_MUCH);
                }
                end++;
            }
        }

        private static int sortOf(int b) {
            if (b >= 'a' && b <= 'z') {
                return WORD;
            }
            if (b >= '0' && b <= '9') {
                return NUMBER;
            }
            return b == ';' ? SIGN : OTHER;
        }

        private boolean isWord(String word) {
            if (word.length() != end - start) {
                return false;
            }
            for (int i = 0; i < word.length(); i++) {
                if (word.charAt(i) != tape.at(start + i)) {
                    return false;
                }
            }
            return true;
        }
    }

    // ---- sheets

    private static final class Sheet {
        int bits;
        int size;
        final long[] numbers;

        Sheet() {
            bits = 0;
            size = 0;
            numbers = new long[MOST_NUMBERS];
        }

        boolean isMissing() {
            return bits == 0;
        }

        void lay(int newBits, int newSize) {
            bits = newBits;
            size = newSize;
            for (int i = 0; i < MOST_NUMBERS; i++) {
                numbers[i] = 0;
            }
        }

        boolean has(int i) {
            return i >= 0 && i < size && i < MOST_NUMBERS;
        }

        boolean hasRange(int from, int n) {
            return from >= 0 && n >= 0 && n <= size && from <= size - n;
        }

        long at(int i) {
            return has(i) ? numbers[i] : 0;
        }

        void put(int i, long v) {
            if (has(i)) {
                numbers[i] = bits == 8 ? (byte) v : bits == 16 ? (short) v : v;
            }
        }
    }
}
