/**
 * Taught by nine: the face of the document in front of the classes that hold
 * the guild, the roads, the apprentice, the texts, the sheets and the slots.
 * Nothing is made by a call but the texts that are kept: all rows stand from
 * the beginning and are used again.
 */
public final class NineMasters {
    public static final int BAD = -1000000001, NO = -1000000002, FULL = -1000000003, NONE = -1000000005, NOTHING = -1000000011, KIND = -1000000012, INDEX = -1000000013, SIZE = -1000000014;

    private static final int MASTERS_MOST = 9;
    private static final int TOWNS = 6;
    private static final int GESTURES = 10;
    private static final int HUNDRED = 100;
    private static final int ROAD_BOUND = 10;
    private static final int COINS_BOUND = 10000;
    private static final int LAST_DAY = 9999;
    private static final int REST_MOST = 100;
    private static final int CHAIR_MOST = 6;
    private static final int YEARS_MOST = 60;
    private static final int YEARS_TOLD_MOST = 30;
    private static final int WAITING_MOST = 60;
    private static final int LEARNINGS_MOST = 4;
    private static final int TOGETHER_MOST = 3;

    /** The document gives 9999 for a TOWN to which there is no way; no true way is as long. */
    private static final int NO_WAY = 9999;

    private static final int MASTER = 0;
    private static final int STRICT = 1;
    /** The KIND that the document names KIND: that name is the finding's here. */
    private static final int KINDLY = 2;
    private static final int STERN = 3;
    private static final int MILD = 4;
    private static final int SLY = 5;
    private static final int KINDS = 6;
    /** The KIND right above each KIND, -1 above MASTER. */
    private static final int[] ABOVE = {-1, MASTER, MASTER, STRICT, KINDLY, MASTER};

    /** Above every number of days, COINS or differences that can come. */
    private static final int UNHEARD = 1000000000;

    private static final int TEXTS_MOST = 14;
    private static final int TAPE_MOST = 96;
    private static final int FED = 12;
    private static final int FAULT_BASE = -100;
    private static final int TERM_KEY = 0;
    private static final int FAME_KEY = 1;
    private static final int FINE_KEY = 2;
    private static final int KEYS = 3;
    /** In a TEXT's code numbers stand for themselves, names from NAMES on, signs from SIGNS on. */
    private static final int NAMES = 10000;
    private static final int SIGNS = 20000;
    private static final int NOT = SIGNS + '!';

    private static final int SHEETS = 4;
    private static final int PLACES_MOST = 24;
    private static final int MISSING = -1;
    private static final int SHORTS = 0;
    private static final int FLOATS = 1;
    private static final int FLOAT_MOST = 99999;
    private static final int SLOTS = 5;
    private static final int HOLDS_NOTHING = 0;
    private static final int HOLDS_MASTER = 1;
    private static final int HOLDS_SHEET = 2;
    private static final int HOLDS_NUMBER = 3;

    private final Realm realm = new Realm();
    private final Realm image = new Realm();
    private boolean imageKept;
    private final Guild thought = new Guild();
    private final Search search = new Search();
    private final Tape tape = new Tape();
    private final Sheet[] sheets = new Sheet[SHEETS];
    private final Slot[] slots = new Slot[SLOTS];
    private final int[] waiting = new int[WAITING_MOST];
    private int waits;

    public NineMasters() {
        for (int i = 0; i < SHEETS; i++) {
            sheets[i] = new Sheet();
        }
        for (int i = 0; i < SLOTS; i++) {
            slots[i] = new Slot();
        }
    }

    // ---- masters, roads

    public int master(int kind, int town, int gesture, int fee) {
        if (!within(kind, KINDS) || !within(town, TOWNS) || !within(gesture, GESTURES) || !within(fee, HUNDRED)) {
            return BAD;
        }
        int number = realm.guild.size;
        return realm.guild.join(kind, town, gesture, fee) ? number : FULL;
    }

    public int told(int master, int what) {
        Master asked = realm.guild.find(master);
        if (asked == null) {
            return BAD;
        }
        Learner learner = realm.learner;
        switch (what) {
            case 0: return asked.kind;
            case 1: return asked.town;
            case 2: return asked.gesture;
            case 3: return asked.bars;
            case 4: return asked.fee;
            case 5: return asked.age;
            case 6: return asked.dead ? 1 : 0;
            case 7: return realm.daysTaken(asked, Integer.bitCount(learner.knows));
            case 8: return asked.teaches(learner.knows) ? 1 : 0;
            case 9: return asked.worth();
            default: return BAD;
        }
    }

    public int as(int master, int kind) {
        Master asked = realm.guild.find(master);
        if (asked == null || !within(kind, KINDS)) {
            return BAD;
        }
        return asked.isOf(kind) ? asked.fee : KIND;
    }

    public int turns(int master, int kind) {
        Master turned = realm.guild.find(master);
        if (turned == null || !within(kind, KINDS)) {
            return BAD;
        }
        int was = turned.kind;
        turned.kind = kind;
        return was;
    }

    public int set(int master, int what, int v) {
        Master changed = realm.guild.find(master);
        if (changed == null) {
            return BAD;
        }
        switch (what) {
            case 4: return setFee(changed, v);
            case 5: return setAge(changed, v);
            case 6: return setDead(changed, v);
            default: return BAD;
        }
    }

    private static int setFee(Master changed, int v) {
        if (!within(v, HUNDRED)) {
            return BAD;
        }
        int was = changed.fee;
        changed.fee = v;
        return was;
    }

    private static int setAge(Master changed, int v) {
        if (!within(v, HUNDRED)) {
            return BAD;
        }
        int was = changed.age;
        changed.age = v;
        return was;
    }

    private static int setDead(Master changed, int v) {
        if (!within(v, 2)) {
            return BAD;
        }
        int was = changed.dead ? 1 : 0;
        changed.dead = v == 1;
        return was;
    }

    public int bars(int master, int one, int other) {
        Master barring = realm.guild.find(master);
        if (barring == null || !within(one, GESTURES) || !within(other, GESTURES)) {
            return BAD;
        }
        if (one == barring.gesture || other == barring.gesture) {
            return BAD;
        }
        int was = barring.bars;
        barring.bars = 1 << one | 1 << other;
        return was;
    }

    public int road(int one, int other, int days) {
        if (!within(one, TOWNS) || !within(other, TOWNS) || one == other || !within(days, ROAD_BOUND)) {
            return BAD;
        }
        int was = realm.roads.direct(one, other);
        realm.roads.build(one, other, days);
        return was;
    }

    public int far(int one, int other) {
        if (!within(one, TOWNS) || !within(other, TOWNS)) {
            return BAD;
        }
        int days = realm.roads.fewest(one, other);
        return days == NO_WAY ? NONE : days;
    }

    public int deal(int n) {
        if (n < 1 || n > MASTERS_MOST) {
            return BAD;
        }
        int came = Math.min(n, MASTERS_MOST - realm.guild.size);
        for (int i = 0; i < came; i++) {
            realm.guild.joinByLot();
        }
        return came;
    }

    public int seed(int v) {
        int was = realm.guild.z;
        realm.guild.z = v;
        return was;
    }

    // ---- the apprentice

    public int apprentice(int what) {
        switch (what) {
            case 0: return realm.learner.at;
            case 1: return realm.learner.knows;
            case 2: return realm.learner.coins;
            case 3: return realm.learner.forgets;
            default: return BAD;
        }
    }

    public int has(int what, int v) {
        Learner learner = realm.learner;
        if (what == 2 && within(v, COINS_BOUND)) {
            int was = learner.coins;
            learner.coins = v;
            return was;
        }
        if (what == 3 && within(v, HUNDRED)) {
            int was = learner.forgets;
            learner.forgets = v;
            return was;
        }
        return BAD;
    }

    public int knows(int gesture, int what) {
        if (!within(gesture, GESTURES) || !within(what, 2)) {
            return BAD;
        }
        Learner learner = realm.learner;
        if (!learner.isAble(gesture)) {
            return NO;
        }
        return what == 0 ? learner.from[gesture] : learner.rested[gesture];
    }

    public int go(int town) {
        Learner learner = realm.learner;
        if (!within(town, TOWNS) || town == learner.at) {
            return BAD;
        }
        int days = realm.roads.direct(learner.at, town);
        if (days == 0) {
            return NO;
        }
        learner.passDays(days);
        learner.at = town;
        return learner.day;
    }

    public int learn(int master) {
        Master teacher = realm.guild.find(master);
        if (teacher == null) {
            return BAD;
        }
        Learner learner = realm.learner;
        if (!learner.canLearnOf(teacher)) {
            return NO;
        }
        learner.learnOf(master, teacher, realm.daysTaken(teacher, Integer.bitCount(learner.knows)));
        return learner.knows;
    }

    public int use(int gesture) {
        if (!within(gesture, GESTURES)) {
            return BAD;
        }
        return realm.learner.practise(gesture) ? realm.learner.knows : NO;
    }

    public int rests(int n) {
        if (n < 1 || n > REST_MOST) {
            return BAD;
        }
        realm.learner.passDays(n);
        return realm.learner.knows;
    }

    // ---- chairs, what can be known

    public int wants(int gesture) {
        if (!within(gesture, GESTURES)) {
            return BAD;
        }
        return realm.addWish(gesture) ? realm.wishes : FULL;
    }

    public int clear() {
        int were = realm.wishes;
        realm.wishes = 0;
        return were;
    }

    public int made() {
        if (!realm.canMakeChair()) {
            return NO;
        }
        realm.makeChair();
        return realm.learner.day;
    }

    public int soonest(int what) {
        if (!within(what, 3)) {
            return BAD;
        }
        if (!search.finds(realm)) {
            return NONE;
        }
        switch (what) {
            case 0: return search.bestDays;
            case 1: return search.bestCoins;
            default: return search.bestFirst;
        }
    }

    public int together(int set) {
        if (!within(set, 1 << GESTURES) || Integer.bitCount(set) > TOGETHER_MOST) {
            return BAD;
        }
        return realm.guild.canBringTogether(set) ? 1 : 0;
    }

    public int never() {
        int taught = realm.guild.taught();
        for (int one = 0; one < GESTURES; one++) {
            for (int other = one + 1; other < GESTURES; other++) {
                int both = 1 << one | 1 << other;
                if ((taught & both) == both && !realm.guild.canBringTogether(both)) {
                    return 10 * one + other;
                }
            }
        }
        return NONE;
    }

    public int last(int gesture) {
        if (!within(gesture, GESTURES)) {
            return BAD;
        }
        return realm.guild.onlyTeacher(gesture);
    }

    public int years(int n) {
        if (n < 1 || n > YEARS_MOST) {
            return BAD;
        }
        int before = realm.guild.countDead();
        realm.guild.liveYears(n);
        return realm.guild.countDead() - before;
    }

    public int gone(int n) {
        if (n < 0 || n > YEARS_MOST) {
            return BAD;
        }
        thought.become(realm.guild);
        thought.liveYears(n);
        return Integer.bitCount(realm.guild.taught() & ~thought.taught());
    }

    public int fresh() {
        int best = 0;
        for (int town = 1; town < TOWNS; town++) {
            if (realm.waysToMasters(town) < realm.waysToMasters(best)) {
                best = town;
            }
        }
        return best;
    }

    public int cut(int sheet, int what) {
        Sheet row = findSheet(sheet);
        if (row == null || !within(what, 2)) {
            return BAD;
        }
        if (row.sort == MISSING) {
            return NOTHING;
        }
        int best = NONE;
        int least = UNHEARD;
        for (int i = 0; i < MASTERS_MOST; i++) {
            Master master = realm.guild.find(i);
            int apart = master == null ? least : realm.apart(master, row);
            if (apart < least) {
                best = i;
                least = apart;
            }
        }
        return what == 0 || best == NONE ? best : least;
    }

    public int fame(int master) {
        Master asked = realm.guild.find(master);
        return asked == null ? BAD : realm.fameOf(asked);
    }

    public int fine() {
        return realm.fineNow();
    }

    // ---- texts

    public int feed(int a, int b, int c) {
        if (tape.size > TAPE_MOST - FED) {
            return FULL;
        }
        tape.addNumber(a);
        tape.addNumber(b);
        tape.addNumber(c);
        return tape.size;
    }

    public int trim(int n) {
        if (n < 0 || n > tape.size) {
            return BAD;
        }
        tape.size = n;
        return n;
    }

    public int text() {
        boolean sound = tape.isText();
        tape.size = 0;
        if (!sound) {
            return FAULT_BASE - tape.start;
        }
        int number = realm.textCount;
        return realm.addText(tape.textRead()) ? number : FULL;
    }

    public int textTold(int text, int what) {
        Text asked = realm.findText(text);
        if (asked == null || !within(what, 2)) {
            return BAD;
        }
        return what == 0 ? asked.key : asked.operands;
    }

    public int why(int key) {
        if (!within(key, KEYS)) {
            return BAD;
        }
        int number = realm.numberOfLaw(key);
        return number < 0 ? NONE : number;
    }

    // ---- sheets, slots

    public int sheet(int sheet, int sort, int n) {
        Sheet row = findSheet(sheet);
        if (row == null || sort < MISSING || sort > FLOATS) {
            return BAD;
        }
        if (sort == MISSING) {
            row.begin(MISSING, 0);
            return 0;
        }
        if (n > PLACES_MOST) {
            return BAD;
        }
        if (n < 0) {
            return SIZE;
        }
        row.begin(sort, n);
        return n;
    }

    public int mark(int sheet, int place, int v) {
        Sheet row = findSheet(sheet);
        if (row == null) {
            return BAD;
        }
        if (row.sort == MISSING) {
            return NOTHING;
        }
        if (!row.hasPlace(place)) {
            return INDEX;
        }
        if (row.sort == SHORTS) {
            if (v == NONE) {
                return KIND;
            }
            row.places[place] = (short) v;
            return 1;
        }
        if (v != NONE && (v < -FLOAT_MOST || v > FLOAT_MOST)) {
            return BAD;
        }
        row.places[place] = v;
        return 1;
    }

    public int pour(int sheet) {
        Sheet row = findSheet(sheet);
        if (row == null) {
            return BAD;
        }
        if (row.sort == MISSING) {
            return NOTHING;
        }
        int changed = 0;
        for (int i = 0; i < row.size; i++) {
            Master master = realm.guild.find(i);
            if (master != null && row.isNumber(i)) {
                int fee = Math.max(0, Math.min(HUNDRED - 1, row.places[i]));
                changed += fee == master.fee ? 0 : 1;
                master.fee = fee;
            }
        }
        return changed;
    }

    public int reads(int sheet) {
        Sheet row = findSheet(sheet);
        if (row == null) {
            return BAD;
        }
        if (row.sort == MISSING) {
            return NOTHING;
        }
        for (int i = 0; i < row.size; i++) {
            Master master = realm.guild.find(i);
            if (row.isNumber(i) && (master == null || row.places[i] != master.age)) {
                return i;
            }
        }
        return NONE;
    }

    public int copy(int from, int place, int to, int at, int many) {
        Sheet source = findSheet(from);
        Sheet target = findSheet(to);
        if (source == null || target == null) {
            return BAD;
        }
        if (source.sort == MISSING || target.sort == MISSING) {
            return NOTHING;
        }
        if (source.sort != target.sort) {
            return KIND;
        }
        if (!source.hasPlaces(place, many) || !target.hasPlaces(at, many)) {
            return INDEX;
        }
        System.arraycopy(source.places, place, target.places, at, many);
        return many;
    }

    public int lay(int slot, int thing, int k) {
        Slot changed = findSlot(slot);
        if (changed == null) {
            return BAD;
        }
        int was = changed.thing;
        switch (thing) {
            case HOLDS_NOTHING:
                changed.thing = HOLDS_NOTHING;
                return was;
            case HOLDS_MASTER: return layMaster(changed, k);
            case HOLDS_SHEET: return laySheet(changed, k);
            case HOLDS_NUMBER:
                changed.thing = HOLDS_NUMBER;
                changed.number = k;
                return was;
            default: return BAD;
        }
    }

    private int layMaster(Slot changed, int k) {
        Master laid = realm.guild.find(k);
        if (laid == null) {
            return BAD;
        }
        int was = changed.thing;
        changed.thing = HOLDS_MASTER;
        changed.master.become(laid);
        return was;
    }

    private int laySheet(Slot changed, int k) {
        Sheet laid = findSheet(k);
        if (laid == null) {
            return BAD;
        }
        if (laid.sort == MISSING) {
            return NOTHING;
        }
        int was = changed.thing;
        changed.thing = HOLDS_SHEET;
        changed.sheet.become(laid);
        return was;
    }

    public int ask(int slot, int kind) {
        Slot asked = findSlot(slot);
        if (asked == null || !within(kind, KINDS)) {
            return BAD;
        }
        if (asked.thing == HOLDS_NOTHING) {
            return NOTHING;
        }
        if (asked.thing != HOLDS_MASTER || !asked.master.isOf(kind)) {
            return KIND;
        }
        return asked.master.worth();
    }

    public int item(int slot, int place) {
        Slot asked = findSlot(slot);
        if (asked == null) {
            return BAD;
        }
        if (asked.thing == HOLDS_NOTHING) {
            return NOTHING;
        }
        if (asked.thing != HOLDS_SHEET) {
            return KIND;
        }
        if (!asked.sheet.hasPlace(place)) {
            return INDEX;
        }
        return asked.sheet.isNumber(place) ? asked.sheet.places[place] : KIND;
    }

    public int rest(int slot, int n) {
        Slot asked = findSlot(slot);
        if (asked == null) {
            return BAD;
        }
        if (asked.thing == HOLDS_NOTHING) {
            return NOTHING;
        }
        if (asked.thing != HOLDS_NUMBER) {
            return KIND;
        }
        return n == 0 ? NO : asked.number % n;
    }

    // ---- rows, images

    public int tell(int v) {
        if (!within(waits, WAITING_MOST)) {
            return FULL;
        }
        waiting[waits] = v;
        waits++;
        return waits;
    }

    public int check(int n) {
        int toldCount = waits;
        waits = 0;
        if (n < 1 || n > YEARS_TOLD_MOST) {
            return BAD;
        }
        if (!imageKept) {
            return NO;
        }
        thought.become(image.guild);
        for (int year = 0; year < n; year++) {
            thought.liveYear();
            int place = 2 * year;
            if (!isWaiting(place, toldCount, thought.countDead())) {
                return 1 + place;
            }
            if (!isWaiting(place + 1, toldCount, thought.agesTogether())) {
                return 2 + place;
            }
        }
        return toldCount == 2 * n ? 0 : 1 + 2 * n;
    }

    private boolean isWaiting(int place, int toldCount, int due) {
        return place < toldCount && within(place, WAITING_MOST) && waiting[place] == due;
    }

    public int keep() {
        image.become(realm);
        imageKept = true;
        return image.guild.size;
    }

    public int back() {
        if (!imageKept) {
            return NO;
        }
        realm.become(image);
        return realm.guild.size;
    }

    public int count(int what) {
        switch (what) {
            case 0: return realm.guild.size;
            case 1: return realm.guild.countDead();
            case 2: return realm.learner.day;
            case 3: return Integer.bitCount(realm.learner.knows);
            case 4: return realm.wishes;
            case 5: return realm.canMakeChair() ? 1 : 0;
            case 6: return realm.textCount;
            case 7: return waits;
            case 8: return tape.size;
            case 9: return realm.guild.z;
            default: return BAD;
        }
    }

    private Sheet findSheet(int number) {
        return within(number, SHEETS) ? sheets[number] : null;
    }

    private Slot findSlot(int number) {
        return within(number, SLOTS) ? slots[number] : null;
    }

    private static boolean within(int v, int bound) {
        return v >= 0 && v < bound;
    }

    /** One MASTER; what differs by KIND falls to the KIND above where a KIND is not named. */
    private static final class Master {
        int kind;
        int town;
        int gesture;
        int bars;
        int fee;
        int age;
        boolean dead;

        void begin(int newKind, int newTown, int newGesture, int newFee) {
            kind = newKind;
            town = newTown;
            gesture = newGesture;
            fee = newFee;
            bars = 0;
            age = 40;
            dead = false;
        }

        void become(Master other) {
            kind = other.kind;
            town = other.town;
            gesture = other.gesture;
            bars = other.bars;
            fee = other.fee;
            age = other.age;
            dead = other.dead;
        }

        boolean isOf(int asked) {
            int own = kind;
            for (int step = 0; step < KINDS && within(own, KINDS); step++) {
                if (own == asked) {
                    return true;
                }
                own = ABOVE[own];
            }
            return false;
        }

        /** TAKES, from what the KIND MASTER would take. */
        int daysFrom(int plain) {
            int kindly = Math.max(1, plain - 1);
            switch (kind) {
                case STRICT: return 2 * plain;
                case STERN: return 2 * plain + age / 10;
                case KINDLY: return kindly;
                case MILD: return Math.max(1, kindly / 2);
                case SLY: return 1;
                default: return plain;
            }
        }

        boolean teaches(int known) {
            int barred = Integer.bitCount(bars & known);
            switch (kind) {
                case STERN: return barred == 0 && Integer.bitCount(known) >= 3;
                case KINDLY: return true;
                case MILD: return true;
                case SLY: return barred <= 1;
                default: return barred == 0;
            }
        }

        int unlearnt() {
            return kind == KINDLY ? bars : 0;
        }

        int worth() {
            switch (kind) {
                case STRICT: return fee + 11;
                case STERN: return 2 * (fee + 11);
                case KINDLY: return HUNDRED - 1 - fee;
                case MILD: return HUNDRED - 1 - fee - 4;
                case SLY: return 8;
                default: return fee;
            }
        }
    }

    /** The MASTERS and the lot: all that YEARS change, so that years can be thought on a guild of its own. */
    private static final class Guild {
        final Master[] masters = new Master[MASTERS_MOST];
        int size;
        int z = 1;

        Guild() {
            for (int i = 0; i < MASTERS_MOST; i++) {
                masters[i] = new Master();
            }
        }

        void become(Guild other) {
            size = other.size;
            z = other.z;
            for (int i = 0; i < MASTERS_MOST; i++) {
                masters[i].become(other.masters[i]);
            }
        }

        /** null: there is no such MASTER. */
        Master find(int number) {
            return within(number, size) && number < MASTERS_MOST ? masters[number] : null;
        }

        boolean join(int kind, int town, int gesture, int fee) {
            if (!within(size, MASTERS_MOST)) {
                return false;
            }
            masters[size].begin(kind, town, gesture, fee);
            size++;
            return true;
        }

        void joinByLot() {
            int kind = draw() % KINDS;
            int town = draw() % TOWNS;
            int gesture = draw() % GESTURES;
            int fee = draw() % 40;
            join(kind, town, gesture, fee);
        }

        private int draw() {
            z = z * 1103515245 + 12345;
            return z >>> 8;
        }

        void liveYear() {
            for (int i = 0; i < size; i++) {
                Master master = find(i);
                if (master != null && !master.dead) {
                    if (draw() % HUNDRED < master.age - 50) {
                        master.dead = true;
                    } else {
                        master.age = Math.min(HUNDRED - 1, master.age + 1);
                    }
                }
            }
        }

        void liveYears(int n) {
            for (int year = 0; year < n; year++) {
                liveYear();
            }
        }

        int countDead() {
            int dead = 0;
            for (int i = 0; i < size; i++) {
                Master master = find(i);
                dead += master != null && master.dead ? 1 : 0;
            }
            return dead;
        }

        int agesTogether() {
            int ages = 0;
            for (int i = 0; i < size; i++) {
                Master master = find(i);
                ages += master == null ? 0 : master.age;
            }
            return ages;
        }

        /** The GESTURES that somebody not DEAD teaches. */
        int taught() {
            int gestures = 0;
            for (int i = 0; i < size; i++) {
                Master master = find(i);
                gestures |= master == null || master.dead ? 0 : 1 << master.gesture;
            }
            return gestures;
        }

        int onlyTeacher(int gesture) {
            int only = NONE;
            for (int i = 0; i < size; i++) {
                Master master = find(i);
                if (master != null && !master.dead && master.gesture == gesture) {
                    if (only != NONE) {
                        return NONE;
                    }
                    only = i;
                }
            }
            return only;
        }

        boolean canBringTogether(int wanted) {
            return leadsTo(this, 0, wanted);
        }

        /** Each step brings one GESTURE for good: with one MASTER for each, what is UNLEARNT could not come again. */
        private static boolean leadsTo(Guild guild, int known, int wanted) {
            if (known == wanted) {
                return true;
            }
            if (Integer.bitCount(wanted & ~known) > TOGETHER_MOST) {
                return false;
            }
            for (int i = 0; i < guild.size; i++) {
                Master master = guild.find(i);
                if (master != null && helps(master, known, wanted)
                        && leadsTo(guild, known | 1 << master.gesture, wanted)) {
                    return true;
                }
            }
            return false;
        }

        private static boolean helps(Master master, int known, int wanted) {
            boolean isNew = (wanted & ~known & 1 << master.gesture) != 0;
            return isNew && !master.dead && master.teaches(known) && (master.unlearnt() & known) == 0;
        }
    }

    /** ROADS, and FAR of all TOWNS, measured anew whenever a ROAD changes. */
    private static final class Roads {
        private final int[] days = new int[TOWNS * TOWNS];
        private final int[] ways = new int[TOWNS * TOWNS];

        Roads() {
            measure();
        }

        void become(Roads other) {
            System.arraycopy(other.days, 0, days, 0, TOWNS * TOWNS);
            System.arraycopy(other.ways, 0, ways, 0, TOWNS * TOWNS);
        }

        int direct(int one, int other) {
            return within(one, TOWNS) && within(other, TOWNS) ? days[one * TOWNS + other] : 0;
        }

        int fewest(int one, int other) {
            return within(one, TOWNS) && within(other, TOWNS) ? ways[one * TOWNS + other] : NO_WAY;
        }

        void build(int one, int other, int newDays) {
            if (within(one, TOWNS) && within(other, TOWNS)) {
                days[one * TOWNS + other] = newDays;
                days[other * TOWNS + one] = newDays;
                measure();
            }
        }

        private void measure() {
            for (int one = 0; one < TOWNS; one++) {
                for (int other = 0; other < TOWNS; other++) {
                    int road = days[one * TOWNS + other];
                    ways[one * TOWNS + other] = one == other ? 0 : road == 0 ? NO_WAY : road;
                }
            }
            for (int over = 0; over < TOWNS; over++) {
                for (int one = 0; one < TOWNS; one++) {
                    for (int other = 0; other < TOWNS; other++) {
                        int round = ways[one * TOWNS + over] + ways[over * TOWNS + other];
                        ways[one * TOWNS + other] = Math.min(ways[one * TOWNS + other], round);
                    }
                }
            }
        }
    }

    /** THE APPRENTICE and THE DAY. */
    private static final class Learner {
        int at;
        int knows;
        int coins = 100;
        int forgets;
        int day;
        final int[] from = new int[GESTURES];
        final int[] rested = new int[GESTURES];

        void become(Learner other) {
            at = other.at;
            knows = other.knows;
            coins = other.coins;
            forgets = other.forgets;
            day = other.day;
            System.arraycopy(other.from, 0, from, 0, GESTURES);
            System.arraycopy(other.rested, 0, rested, 0, GESTURES);
        }

        boolean isAble(int gesture) {
            return within(gesture, GESTURES) && (knows & 1 << gesture) != 0;
        }

        void passDays(int n) {
            day = Math.min(LAST_DAY, day + n);
            for (int g = 0; g < GESTURES; g++) {
                if (isAble(g)) {
                    rested[g] += n;
                    if (forgets != 0 && rested[g] > forgets) {
                        knows &= ~(1 << g);
                    }
                }
            }
        }

        boolean canLearnOf(Master teacher) {
            return teacher.town == at && !teacher.dead && teacher.teaches(knows)
                    && !isAble(teacher.gesture) && teacher.fee <= coins;
        }

        void learnOf(int number, Master teacher, int days) {
            coins -= teacher.fee;
            passDays(days);
            knows &= ~teacher.unlearnt();
            if (within(teacher.gesture, GESTURES)) {
                knows |= 1 << teacher.gesture;
                from[teacher.gesture] = number;
                rested[teacher.gesture] = 0;
            }
        }

        boolean practise(int gesture) {
            if (!within(gesture, GESTURES) || !isAble(gesture)) {
                return false;
            }
            rested[gesture] = 0;
            passDays(1);
            return true;
        }
    }

    /** All that AN IMAGE keeps. */
    private static final class Realm {
        final Guild guild = new Guild();
        final Roads roads = new Roads();
        final Learner learner = new Learner();
        private final int[] wished = new int[CHAIR_MOST];
        int wishes;
        private final Text[] texts = new Text[TEXTS_MOST];
        int textCount;

        void become(Realm other) {
            guild.become(other.guild);
            roads.become(other.roads);
            learner.become(other.learner);
            System.arraycopy(other.wished, 0, wished, 0, CHAIR_MOST);
            wishes = other.wishes;
            for (int i = 0; i < TEXTS_MOST; i++) {
                texts[i] = other.texts[i];
            }
            textCount = other.textCount;
        }

        boolean addWish(int gesture) {
            if (!within(wishes, CHAIR_MOST)) {
                return false;
            }
            wished[wishes] = gesture;
            wishes++;
            return true;
        }

        int wishedSet() {
            int set = 0;
            for (int i = 0; i < wishes && i < CHAIR_MOST; i++) {
                set |= 1 << wished[i];
            }
            return set;
        }

        boolean canMakeChair() {
            return (wishedSet() & ~learner.knows) == 0;
        }

        void makeChair() {
            for (int i = 0; i < wishes && i < CHAIR_MOST; i++) {
                learner.practise(wished[i]);
            }
        }

        boolean addText(Text text) {
            if (!within(textCount, TEXTS_MOST)) {
                return false;
            }
            texts[textCount] = text;
            textCount++;
            return true;
        }

        /** null: there is no such TEXT. */
        Text findText(int number) {
            return within(number, textCount) && number < TEXTS_MOST ? texts[number] : null;
        }

        /** The TEXT that counts for a KEY; -1: none. */
        int numberOfLaw(int key) {
            int last = -1;
            for (int i = 0; i < textCount && i < TEXTS_MOST; i++) {
                if (texts[i] != null && texts[i].key == key) {
                    last = i;
                }
            }
            return last;
        }

        int daysTaken(Master master, int k) {
            Text law = findText(numberOfLaw(TERM_KEY));
            int plain = law == null ? 3 + k : law.workOut(k, master.gesture, master.age);
            return master.daysFrom(Math.max(1, Math.min(HUNDRED - 1, plain)));
        }

        int fameOf(Master master) {
            Text law = findText(numberOfLaw(FAME_KEY));
            return law == null ? master.fee : law.workOut(master.fee, master.age, 0);
        }

        int fineNow() {
            Text law = findText(numberOfLaw(FINE_KEY));
            return law == null ? learner.coins : law.workOut(learner.coins, learner.day, 0);
        }

        int waysToMasters(int town) {
            int sum = 0;
            for (int i = 0; i < guild.size; i++) {
                Master master = guild.find(i);
                sum += master == null || master.dead ? 0 : roads.fewest(town, master.town);
            }
            return sum;
        }

        int apart(Master master, Sheet row) {
            int sum = 0;
            for (int k = 0; k < row.size; k++) {
                if (row.isNumber(k)) {
                    sum += Math.abs(daysTaken(master, k) - row.places[k]);
                }
            }
            return sum;
        }
    }

    /**
     * SOONEST. One thought apprentice goes all the ways there are; what it is
     * like behind so many LEARNINGS stands in rows. Of REST only the day is
     * kept from which it counts, so that a step back has one number to put
     * right.
     */
    private static final class Search {
        private static final int NOT_YET = 0;
        private static final int STAGES = LEARNINGS_MOST + 1;
        private final int[] town = new int[STAGES];
        private final int[] knows = new int[STAGES];
        private final int[] days = new int[STAGES];
        private final int[] paid = new int[STAGES];
        private final int[] first = new int[STAGES];
        private final int[] since = new int[GESTURES];
        private final int[] daysKnown = new int[MASTERS_MOST * (GESTURES + 1)];
        private int wanted;
        private int taught;
        int bestDays;
        int bestCoins;
        int bestFirst;

        /** Whether there is a way; the best fields tell of it then. */
        boolean finds(Realm realm) {
            bestDays = UNHEARD;
            bestCoins = UNHEARD;
            bestFirst = UNHEARD;
            wanted = realm.wishedSet();
            taught = realm.guild.taught();
            for (int i = 0; i < daysKnown.length; i++) {
                daysKnown[i] = NOT_YET;
            }
            for (int g = 0; g < GESTURES; g++) {
                since[g] = -realm.learner.rested[g];
            }
            town[0] = realm.learner.at;
            knows[0] = realm.learner.knows;
            days[0] = 0;
            paid[0] = 0;
            first[0] = NONE;
            goOn(realm, 0);
            return bestDays != UNHEARD;
        }

        /** A LEARNING brings one GESTURE at most: where none is to spare, only those that lack are learnt. */
        private void goOn(Realm realm, int stage) {
            if (!within(stage, STAGES)) {
                return;
            }
            int lacks = wanted & ~knows[stage];
            if (lacks == 0) {
                offer(stage);
                return;
            }
            int spare = LEARNINGS_MOST - stage - Integer.bitCount(lacks);
            if (spare < 0 || (lacks & ~taught) != 0) {
                return;
            }
            for (int i = 0; i < realm.guild.size; i++) {
                Master master = realm.guild.find(i);
                if (master != null && (spare > 0 || (lacks & 1 << master.gesture) != 0)) {
                    tryMaster(realm, stage, i, master);
                }
            }
        }

        private void tryMaster(Realm realm, int stage, int number, Master master) {
            int next = stage + 1;
            int gesture = master.gesture;
            if (!within(stage, STAGES) || !within(next, STAGES) || !within(gesture, GESTURES)) {
                return;
            }
            int way = realm.roads.fewest(town[stage], master.town);
            int arrival = days[stage] + way;
            int forgets = realm.learner.forgets;
            int known = way == 0 ? knows[stage] : keptOf(knows[stage], arrival, forgets);
            int price = paid[stage] + master.fee;
            if (master.dead || way == NO_WAY || price > realm.learner.coins
                    || (known & 1 << gesture) != 0 || !master.teaches(known)) {
                return;
            }
            int end = arrival + daysTaken(realm, number, master, Integer.bitCount(known));
            if (end > bestDays) {
                return;
            }
            town[next] = master.town;
            knows[next] = keptOf(known, end, forgets) & ~master.unlearnt() | 1 << gesture;
            days[next] = end;
            paid[next] = price;
            first[next] = stage == 0 ? number : first[stage];
            int before = since[gesture];
            since[gesture] = end;
            goOn(realm, next);
            since[gesture] = before;
        }

        private int keptOf(int known, int day, int forgets) {
            if (forgets == 0) {
                return known;
            }
            int kept = known;
            for (int g = 0; g < GESTURES; g++) {
                if (day - since[g] > forgets) {
                    kept &= ~(1 << g);
                }
            }
            return kept;
        }

        /** The same MASTER is asked on many ways, and a TEXT is long to work out. */
        private int daysTaken(Realm realm, int number, Master master, int k) {
            int place = number * (GESTURES + 1) + k;
            if (!within(place, daysKnown.length)) {
                return realm.daysTaken(master, k);
            }
            if (daysKnown[place] == NOT_YET) {
                daysKnown[place] = realm.daysTaken(master, k);
            }
            return daysKnown[place];
        }

        private void offer(int stage) {
            if (within(stage, STAGES) && isBetter(days[stage], paid[stage], first[stage])) {
                bestDays = days[stage];
                bestCoins = paid[stage];
                bestFirst = first[stage];
            }
        }

        private boolean isBetter(int newDays, int newCoins, int newFirst) {
            if (newDays != bestDays) {
                return newDays < bestDays;
            }
            return newCoins != bestCoins ? newCoins < bestCoins : newFirst < bestFirst;
        }
    }

    /** A TEXT that was told: its E as numbers, names and signs, each sign behind what it joins. */
    private static final class Text {
        final int key;
        final int operands;
        private final int[] code;
        private final int[] stack;

        Text(int ownKey, int ownOperands, int[] ownCode) {
            key = ownKey;
            operands = ownOperands;
            code = ownCode;
            stack = new int[Math.max(1, ownOperands)];
        }

        /** What the E gives, with the KEY's names standing for these, in their order. */
        int workOut(int first, int second, int third) {
            int top = 0;
            for (int i = 0; i < code.length; i++) {
                int word = code[i];
                if (word < SIGNS) {
                    if (within(top, stack.length)) {
                        stack[top] = valueOf(word, first, second, third);
                        top++;
                    }
                } else if (word == NOT) {
                    if (within(top - 1, stack.length)) {
                        stack[top - 1] = stack[top - 1] == 0 ? 1 : 0;
                    }
                } else if (top > 1 && top <= stack.length) {
                    top--;
                    stack[top - 1] = joined(word - SIGNS, stack[top - 1], stack[top]);
                }
            }
            return top == 1 ? stack[0] : 0;
        }

        private static int valueOf(int word, int first, int second, int third) {
            switch (word) {
                case NAMES: return first;
                case NAMES + 1: return second;
                case NAMES + 2: return third;
                default: return word;
            }
        }

        private static int joined(int sign, int one, int other) {
            switch (sign) {
                case '|': return one != 0 || other != 0 ? 1 : 0;
                case '&': return one != 0 && other != 0 ? 1 : 0;
                case '<': return one < other ? 1 : 0;
                case '=': return one == other ? 1 : 0;
                case '>': return one > other ? 1 : 0;
                case '+': return one + other;
                case '-': return one - other;
                case '*': return one * other;
                default: return other == 0 ? 0 : one / other;
            }
        }
    }

    /** THE TAPE, and the reading of it: a step for each word or sign, that in hand being bytes start .. end - 1. */
    private static final class Tape {
        private static final int END = 0;
        private static final int LETTERS = 1;
        private static final int DIGITS = 2;
        private static final int SIGN = 3;
        private static final int LEVELS = 5;
        private static final int TEST_LEVEL = 2;
        private static final int NESTED_MOST = 8;
        private static final int DIGITS_MOST = 4;

        private final int[] bytes = new int[TAPE_MOST];
        int size;
        int start;
        private int end;
        private int sort;
        private boolean needsBlank;
        private int key;
        private int operands;
        private final int[] code = new int[TAPE_MOST];
        private int codeSize;

        void addNumber(int v) {
            for (int shift = 24; shift >= 0; shift -= 8) {
                if (within(size, TAPE_MOST)) {
                    bytes[size] = v >>> shift & 255;
                    size++;
                }
            }
        }

        /** Whether it is a TEXT; if not, start is the place of the FAULT. */
        boolean isText() {
            end = 0;
            sort = END;
            operands = 0;
            codeSize = 0;
            step();
            key = keyInHand();
            if (key < 0) {
                return false;
            }
            step();
            return readsChain(0, 0, 0) && sort == END;
        }

        /** The TEXT that isText found, with a code of its own. */
        Text textRead() {
            int[] own = new int[codeSize];
            System.arraycopy(code, 0, own, 0, codeSize);
            return new Text(key, operands, own);
        }

        private void step() {
            boolean wasWord = sort == LETTERS || sort == DIGITS;
            int behind = end;
            start = end;
            while (start < size && byteAt(start) == ' ') {
                start++;
            }
            sort = sortAt(start);
            needsBlank = wasWord && start == behind;
            end = sort == END ? start : start + 1;
            while (end < size && sort != SIGN && sortAt(end) == sort) {
                end++;
            }
        }

        private int byteAt(int place) {
            return place >= 0 && place < size && place < TAPE_MOST ? bytes[place] : 0;
        }

        private int sortAt(int place) {
            if (place >= size) {
                return END;
            }
            int b = byteAt(place);
            if (b >= 'a' && b <= 'z') {
                return LETTERS;
            }
            return b >= '0' && b <= '9' ? DIGITS : SIGN;
        }

        private boolean isInHand(char sign) {
            return sort == SIGN && byteAt(start) == sign;
        }

        private int keyInHand() {
            for (int k = 0; k < KEYS; k++) {
                if (isWordInHand(wordOf(k))) {
                    return k;
                }
            }
            return -1;
        }

        private boolean isWordInHand(String word) {
            if (sort != LETTERS || end - start != word.length()) {
                return false;
            }
            for (int i = 0; i < word.length(); i++) {
                if (byteAt(start + i) != word.charAt(i)) {
                    return false;
                }
            }
            return true;
        }

        private static String wordOf(int key) {
            switch (key) {
                case TERM_KEY: return "term";
                case FAME_KEY: return "fame";
                default: return "fine";
            }
        }

        private static String namesOf(int key) {
            switch (key) {
                case TERM_KEY: return "kga";
                case FAME_KEY: return "fa";
                default: return "cd";
            }
        }

        /** How tightly the sign in hand joins, from 0, the loosest; -1: nothing that joins. */
        private int levelInHand() {
            if (sort != SIGN) {
                return -1;
            }
            switch (byteAt(start)) {
                case '|': return 0;
                case '&': return 1;
                case '<': return TEST_LEVEL;
                case '=': return TEST_LEVEL;
                case '>': return TEST_LEVEL;
                case '+': return 3;
                case '-': return 3;
                case '*': return 4;
                case '/': return 4;
                default: return -1;
            }
        }

        /** Reads parts joined by signs of a level; a TEST has one sign at most. */
        private boolean readsChain(int level, int parens, int bangs) {
            if (level >= LEVELS) {
                return readsPiece(parens, bangs);
            }
            if (!readsChain(level + 1, parens, bangs)) {
                return false;
            }
            int most = level == TEST_LEVEL ? 1 : TAPE_MOST;
            for (int i = 0; i < most && levelInHand() == level; i++) {
                int sign = byteAt(start);
                step();
                if (!readsChain(level + 1, parens, bangs)) {
                    return false;
                }
                write(SIGNS + sign);
            }
            return true;
        }

        private boolean readsPiece(int parens, int bangs) {
            if (sort == LETTERS || sort == DIGITS) {
                return readsOperand();
            }
            if (isInHand('!') && bangs < NESTED_MOST) {
                step();
                boolean read = readsPiece(parens, bangs + 1);
                write(NOT);
                return read;
            }
            if (isInHand('(') && parens < NESTED_MOST) {
                step();
                if (readsChain(0, parens + 1, bangs) && isInHand(')')) {
                    step();
                    return true;
                }
            }
            return false;
        }

        private boolean readsOperand() {
            int word = sort == DIGITS ? numberInHand() : nameInHand();
            if (needsBlank || word < 0) {
                return false;
            }
            write(word);
            operands++;
            step();
            return true;
        }

        private int numberInHand() {
            if (end - start > DIGITS_MOST) {
                return -1;
            }
            int number = 0;
            for (int i = start; i < end; i++) {
                number = 10 * number + byteAt(i) - '0';
            }
            return number;
        }

        private int nameInHand() {
            int name = end - start == 1 ? namesOf(key).indexOf((char) byteAt(start)) : -1;
            return name < 0 ? -1 : NAMES + name;
        }

        private void write(int word) {
            if (within(codeSize, TAPE_MOST)) {
                code[codeSize] = word;
                codeSize++;
            }
        }
    }

    /** A row of shorts or of whole floats: both are held as ints, NO NUMBER as NONE, which is neither. */
    private static final class Sheet {
        int sort = MISSING;
        int size;
        final int[] places = new int[PLACES_MOST];

        void begin(int newSort, int newSize) {
            sort = newSort;
            size = newSize;
            for (int i = 0; i < PLACES_MOST; i++) {
                places[i] = 0;
            }
        }

        void become(Sheet other) {
            sort = other.sort;
            size = other.size;
            System.arraycopy(other.places, 0, places, 0, PLACES_MOST);
        }

        boolean hasPlace(int place) {
            return within(place, size) && place < PLACES_MOST;
        }

        /** So many places from one on; none may stand right behind the last place, too. */
        boolean hasPlaces(int place, int many) {
            return place >= 0 && many >= 0 && many <= size && place <= size - many;
        }

        boolean isNumber(int place) {
            return hasPlace(place) && places[place] != NONE;
        }
    }

    /** What a SLOT holds is a copy of its own: later changes do not reach it. */
    private static final class Slot {
        int thing = HOLDS_NOTHING;
        final Master master = new Master();
        final Sheet sheet = new Sheet();
        int number;
    }
}
