import java.util.NoSuchElementException;

/** Who should own the kiln: works told in a language, what each set of people makes, and who should own what. */
public final class WhoseKiln {
    public static final int NONE = -1;

    private static final int MOST_PEOPLE = 4;
    private static final int MOST_THINGS = 3;
    private static final int MOST_LINES = 8;
    private static final int MOST_STEPS = 3;
    private static final int MOST_SIGNS = 1000;
    private static final int MOST_MARKS = 4;
    private static final int MOST_SUM = 9999;
    private static final int MOST_RIGHT_PRICE = 60;
    private static final int MOST_TIMES = 40;
    private static final int TENTHS = 10;
    private static final int ROWS_OF_PAINS = 256;
    private static final int MOST_PLAIN = 216;

    // Outside of what GOOD can be, so that a row can hold them beside it.
    private static final int UNKNOWN = 1 << 30;
    private static final int NOTHING = -UNKNOWN;

    private final Turns turns;
    private final Worths worths;
    private final Told told;
    private final Told spare;
    private final Told[] marks;
    private final Reader reader;
    private final int[] plain;

    public WhoseKiln() {
        turns = new Turns();
        worths = turns.worths;
        told = worths.told;
        spare = new Told();
        marks = new Told[MOST_MARKS];
        reader = new Reader();
        plain = new int[MOST_PLAIN];
        forgetPlain();
    }

    public int feed(long a, long b, long c) {
        reader.append(a);
        reader.append(b);
        reader.append(c);
        return reader.length;
    }

    public int works() {
        int fault = reader.read(spare);
        if (fault == 0) {
            told.copyFrom(spare);
            forgetAll();
        }
        return fault;
    }

    public int cost(int person, int step) {
        return isStep(person, step) ? told.costs[person * 4 + step] : NONE;
    }

    public int worth(int people, int things, int pains) throws NoSuchElementException {
        if (!isSet(people, told.people) || !isSet(things, told.things) || !isPains(pains)) {
            throw new NoSuchElementException();
        }
        return worths.valueOf(people, things, pains);
    }

    public boolean own(int thing, int owners, int need) {
        if (!canOwn(thing, owners, need)) {
            return false;
        }
        told.owners[thing] = owners;
        told.needs[thing] = need;
        return true;
    }

    public int owner(int thing, int what) {
        if (!isThing(thing) || !isWithin(what, 1)) {
            return NONE;
        }
        return what == 0 ? told.owners[thing] : told.needs[thing];
    }

    public boolean later(int thing, int owners, int need) {
        if (!canOwn(thing, owners, need)) {
            return false;
        }
        told.laterOwners[thing] = owners;
        told.laterNeeds[thing] = need;
        forgetPlain();
        return true;
    }

    public boolean chance(int ten) {
        if (!isWithin(ten, TENTHS)) {
            return false;
        }
        told.chance = ten;
        forgetPlain();
        return true;
    }

    public int has(int people) {
        return isSet(people, told.people) ? thingsOf(people) : NONE;
    }

    public int makes(int people, int pains) throws NoSuchElementException {
        if (!isSet(people, told.people) || !isPains(pains)) {
            throw new NoSuchElementException();
        }
        return madeBy(people, pains);
    }

    public boolean bargain(int kind, int asker) {
        if (!isWithin(kind, Turns.ONE_ASKS) || !isPerson(asker)) {
            return false;
        }
        told.bargain = kind;
        told.asker = asker;
        forgetPlain();
        return true;
    }

    public long share(int person, int pains, int what) throws NoSuchElementException {
        if (!isPerson(person) || !isPains(pains) || !isWithin(what, 1)) {
            throw new NoSuchElementException();
        }
        turns.lookAsIs();
        worths.fill(pains);
        long above = turns.shareOf(turns.asked, person, pains);
        long common = commonDivisor(above < 0 ? -above : above, Turns.WHOLE);
        return what == 0 ? above / common : Turns.WHOLE / common;
    }

    public int would(int person, int pains) {
        if (!isPerson(person) || !isPains(pains)) {
            return NONE;
        }
        turns.lookAsIs();
        return stepIn(turns.chosen(person, pains, false), person);
    }

    public int isRest(int pains) {
        if (isNobody() || !isPains(pains)) {
            return NONE;
        }
        turns.lookAsIs();
        return turns.isSettled(pains) ? 1 : 0;
    }

    public int rest(int what) throws NoSuchElementException {
        if (isNobody() || !isWithin(what, 2)) {
            throw new NoSuchElementException();
        }
        turns.lookAsIs();
        int pains = turns.byTurns(0, NONE);
        if (pains == NONE) {
            throw new NoSuchElementException();
        }
        if (what == 0) {
            return pains;
        }
        return what == 1 ? turns.rounds : worths.goodOf(pains);
    }

    public int rests(int what) {
        if (isNobody() || !isWithin(what, 2)) {
            return NONE;
        }
        turns.lookAsIs();
        int found = 0;
        int least = NONE;
        int greatest = NONE;
        for (int pains = 0; pains < ROWS_OF_PAINS; pains++) {
            if (!isPains(pains) || !turns.isSettled(pains)) {
                continue;
            }
            found++;
            int good = worths.goodOf(pains);
            if (least == NONE || good < worths.goodOf(least)) {
                least = pains;
            }
            if (greatest == NONE || good > worths.goodOf(greatest)) {
                greatest = pains;
            }
        }
        if (what == 0) {
            return found;
        }
        return what == 1 ? least : greatest;
    }

    public int good(int pains) throws NoSuchElementException {
        if (isNobody() || !isPains(pains)) {
            throw new NoSuchElementException();
        }
        return worths.goodOf(pains);
    }

    public int best(int what) throws NoSuchElementException {
        if (isNobody() || !isWithin(what, 1)) {
            throw new NoSuchElementException();
        }
        int pains = bestPains();
        return what == 0 ? pains : worths.goodOf(pains);
    }

    public int lost(int pains) {
        if (isNobody() || !isPains(pains)) {
            return NONE;
        }
        return worths.goodOf(bestPains()) - worths.goodOf(pains);
    }

    public int reached(int owning) throws NoSuchElementException {
        if (owning < 0 || owning >= plainCount()) {
            throw new NoSuchElementException();
        }
        fillPlain(owning, owning);
        if (plain[owning] == NOTHING) {
            throw new NoSuchElementException();
        }
        return plain[owning];
    }

    public int first(int what) {
        int all = plainCount();
        if (all == 0 || !isWithin(what, 2)) {
            return NONE;
        }
        fillPlain(0, all - 1);
        if (what == 2) {
            return countPlain(all, NOTHING);
        }
        int number = firstPlain(all);
        if (number == NONE) {
            return NONE;
        }
        return what == 0 ? number : countPlain(all, plain[number]);
    }

    public int gap() {
        int all = plainCount();
        if (all == 0) {
            return NONE;
        }
        fillPlain(0, all - 1);
        int number = firstPlain(all);
        int asIs = reachedAsIs();
        return number == NONE || asIs == NOTHING ? NONE : plain[number] - asIs;
    }

    public int joint(int what) {
        int all = plainCount();
        if (all == 0 || !isWithin(what, 1)) {
            return NONE;
        }
        fillPlain(0, all - 1);
        int together = plain[jointNumber()];
        if (together == NOTHING) {
            return NONE;
        }
        int less = 0;
        int more = 0;
        for (int number = 0; number < all; number++) {
            if (plain[number] != NOTHING && plain[number] < together) {
                less++;
            }
            if (plain[number] > together) {
                more++;
            }
        }
        return what == 0 ? less : more;
    }

    public int apart(int a, int b) {
        if (!isThing(a) || !isThing(b) || a == b) {
            return NONE;
        }
        for (int pains = 0; pains < ROWS_OF_PAINS; pains++) {
            if (isPains(pains) && (addsApart(a, b, pains) || addsApart(b, a, pains))) {
                return 0;
            }
        }
        return 1;
    }

    public int oneHand(int a, int b) throws NoSuchElementException {
        int all = plainCount();
        if (all == 0 || !isThing(a) || !isThing(b) || a == b) {
            throw new NoSuchElementException();
        }
        fillPlain(0, all - 1);
        int same = NOTHING;
        int unlike = NOTHING;
        for (int number = 0; number < all; number++) {
            if (digitIn(number, a) == digitIn(number, b)) {
                same = Math.max(same, plain[number]);
            } else {
                unlike = Math.max(unlike, plain[number]);
            }
        }
        if (same == NOTHING || unlike == NOTHING) {
            throw new NoSuchElementException();
        }
        return same - unlike;
    }

    public int written(int person, int step) throws NoSuchElementException {
        if (!isStep(person, step)) {
            throw new NoSuchElementException();
        }
        turns.lookAsIs();
        int pains = turns.byTurns(step << 2 * person, person);
        if (pains == NONE) {
            throw new NoSuchElementException();
        }
        return worths.goodOf(pains);
    }

    public int writing(int person, int what) throws NoSuchElementException {
        if (!isPerson(person) || !isWithin(what, 1)) {
            throw new NoSuchElementException();
        }
        int asIs = reachedAsIs();
        int bestStep = NONE;
        int most = NOTHING;
        for (int step = 0; step <= told.steps[person]; step++) {
            int pains = turns.byTurns(step << 2 * person, person);
            if (pains != NONE && worths.goodOf(pains) > most) {
                bestStep = step;
                most = worths.goodOf(pains);
            }
        }
        if (bestStep == NONE || asIs == NOTHING) {
            throw new NoSuchElementException();
        }
        return what == 0 ? bestStep : most - asIs;
    }

    public int right(int thing, int buyer, int price, int what) throws NoSuchElementException {
        if (!isThing(thing) || !isPerson(buyer) || !isWithin(price, MOST_SUM) || !isWithin(what, 2)) {
            throw new NoSuchElementException();
        }
        turns.lookAtRight(thing, buyer, price);
        return answerOfDeal(what, true);
    }

    public int rightPrice(int thing, int buyer, int most, int what) throws NoSuchElementException {
        if (!isThing(thing) || !isPerson(buyer) || !isWithin(most, MOST_RIGHT_PRICE) || !isWithin(what, 1)) {
            throw new NoSuchElementException();
        }
        int bestPrice = NONE;
        int greatest = NOTHING;
        for (int price = 0; price <= most; price++) {
            turns.lookAtRight(thing, buyer, price);
            int pains = turns.byTurns(0, NONE);
            if (pains != NONE && worths.goodOf(pains) > greatest) {
                bestPrice = price;
                greatest = worths.goodOf(pains);
            }
        }
        if (bestPrice == NONE) {
            throw new NoSuchElementException();
        }
        return what == 0 ? bestPrice : greatest;
    }

    public int lender(int person, int thing, int sum, int what) throws NoSuchElementException {
        if (!isPerson(person) || !isThing(thing) || !isWithin(sum, MOST_SUM) || !isWithin(what, 2)) {
            throw new NoSuchElementException();
        }
        turns.lookAtPledge(thing, person, sum);
        return answerOfDeal(what, false);
    }

    public int hands() {
        if (isNobody()) {
            return NONE;
        }
        int owning = 0;
        for (int thing = 0; thing < told.things; thing++) {
            owning |= told.owners[thing];
        }
        return told.all() & ~owning;
    }

    public int leaving(int person, int pains) throws NoSuchElementException {
        if (!isPerson(person) || !isPains(pains)) {
            throw new NoSuchElementException();
        }
        int all = told.all();
        return madeBy(all, pains) - madeBy(all & ~(1 << person), pains);
    }

    public int edge(int line, int thing, int what) {
        if (isNobody() || line < 0 || line >= told.lines || !isThing(thing) || !isWithin(what, 1)) {
            return NONE;
        }
        int usual = firstOwner(line, thing, TENTHS);
        int found = NONE;
        int farthest = what == 0 ? MOST_TIMES - TENTHS : TENTHS;
        for (int far = 1; far <= farthest && usual != NONE && found == NONE; far++) {
            int times = what == 0 ? TENTHS + far : TENTHS - far;
            int there = firstOwner(line, thing, times);
            if (there != NONE && there != usual) {
                found = times;
            }
        }
        worths.scale(NONE, TENTHS);
        return found;
    }

    public boolean mark(int mark, boolean back) {
        if (!isWithin(mark, MOST_MARKS - 1)) {
            return false;
        }
        Told held = marks[mark];
        if (back) {
            if (held == null) {
                return false;
            }
            told.copyFrom(held);
            forgetAll();
            return true;
        }
        if (held == null) {
            held = new Told();
            marks[mark] = held;
        }
        held.copyFrom(told);
        return true;
    }

    public int count(int what) {
        switch (what) {
            case 0:
                return told.people;
            case 1:
                return told.things;
            case 2:
                return told.lines;
            case 3:
                return plainCount();
            case 4:
                return rowCount();
            case 5:
                return reader.length;
            default:
                return NONE;
        }
    }

    private static boolean isWithin(int value, int most) {
        return value >= 0 && value <= most;
    }

    private static boolean isSet(int set, int size) {
        return set >= 0 && set < 1 << size;
    }

    private static int stepIn(int pains, int person) {
        return pains >> 2 * person & 3;
    }

    private static long commonDivisor(long a, long b) {
        long greater = a;
        long lesser = b;
        // Each two turns halve it: 128 are more than any pair of longs needs.
        for (int turn = 0; turn < 128 && lesser > 0; turn++) {
            long over = greater % lesser;
            greater = lesser;
            lesser = over;
        }
        return greater > 0 ? greater : 1;
    }

    private boolean isNobody() {
        return told.people == 0;
    }

    private boolean isPerson(int person) {
        return person >= 0 && person < told.people;
    }

    private boolean isThing(int thing) {
        return thing >= 0 && thing < told.things;
    }

    private boolean isStep(int person, int step) {
        return isPerson(person) && step >= 0 && step <= told.steps[person];
    }

    private boolean isPains(int pains) {
        if (pains < 0 || pains >= 1 << 2 * told.people) {
            return false;
        }
        for (int person = 0; person < told.people; person++) {
            if (stepIn(pains, person) > told.steps[person]) {
                return false;
            }
        }
        return true;
    }

    private boolean canOwn(int thing, int owners, int need) {
        return isThing(thing) && isSet(owners, told.people)
            && need >= 1 && need <= Math.max(1, Integer.bitCount(owners));
    }

    private int thingsOf(int people) {
        int things = 0;
        for (int thing = 0; thing < told.things; thing++) {
            if (Owning.holds(people, told.owners[thing], told.needs[thing], told.all())) {
                things |= 1 << thing;
            }
        }
        return things;
    }

    private int madeBy(int people, int pains) {
        return worths.valueOf(people, thingsOf(people), pains);
    }

    private int bestPains() {
        int best = 0;
        for (int pains = 1; pains < ROWS_OF_PAINS; pains++) {
            if (isPains(pains) && worths.goodOf(pains) > worths.goodOf(best)) {
                best = pains;
            }
        }
        return best;
    }

    private int rowCount() {
        int rows = isNobody() ? 0 : 1;
        for (int person = 0; person < told.people; person++) {
            rows *= told.steps[person] + 1;
        }
        return rows;
    }

    private int plainCount() {
        int count = isNobody() ? 0 : 1;
        for (int thing = 0; thing < told.things; thing++) {
            count *= told.people + 2;
        }
        return count;
    }

    private int digitIn(int number, int thing) {
        int rest = number;
        for (int i = 0; i < thing; i++) {
            rest /= told.people + 2;
        }
        return rest % (told.people + 2);
    }

    private int jointNumber() {
        int number = 0;
        for (int thing = 0; thing < told.things; thing++) {
            number = number * (told.people + 2) + told.people;
        }
        return number;
    }

    /** What plain ownings reach does not hang on the owning as it is, so own() leaves these answers standing. */
    private void forgetPlain() {
        for (int number = 0; number < MOST_PLAIN; number++) {
            plain[number] = UNKNOWN;
        }
    }

    private void forgetAll() {
        forgetPlain();
        worths.forget();
    }

    private void fillPlain(int from, int to) {
        for (int number = from; number <= to && number < MOST_PLAIN; number++) {
            if (plain[number] == UNKNOWN) {
                lookAtPlain(number);
                int pains = turns.byTurns(0, NONE);
                plain[number] = pains == NONE ? NOTHING : worths.goodOf(pains);
            }
        }
    }

    private void lookAtPlain(int number) {
        for (int thing = 0; thing < told.things; thing++) {
            int digit = digitIn(number, thing);
            if (digit < told.people) {
                turns.asked.give(thing, 1 << digit, 1);
            } else if (digit == told.people) {
                turns.asked.give(thing, told.all(), told.people);
            } else {
                turns.asked.give(thing, 0, 1);
            }
        }
        turns.lookAtAsked();
    }

    private int firstPlain(int all) {
        int found = NONE;
        for (int number = 0; number < all; number++) {
            if (plain[number] != NOTHING && (found == NONE || plain[number] > plain[found])) {
                found = number;
            }
        }
        return found;
    }

    private int countPlain(int all, int wanted) {
        int count = 0;
        for (int number = 0; number < all; number++) {
            if (plain[number] == wanted) {
                count++;
            }
        }
        return count;
    }

    /** Leaves the owning as it is in the turns' eye. */
    private int reachedAsIs() {
        turns.lookAsIs();
        int pains = turns.byTurns(0, NONE);
        return pains == NONE ? NOTHING : worths.goodOf(pains);
    }

    private boolean addsApart(int thing, int lacking, int pains) {
        int barred = 1 << thing | 1 << lacking;
        for (int things = 0; things < 1 << told.things; things++) {
            for (int people = 0; (things & barred) == 0 && people < 1 << told.people; people++) {
                int without = worths.valueOf(people, things, pains);
                if (worths.valueOf(people, things | 1 << thing, pains) > without) {
                    return true;
                }
            }
        }
        return false;
    }

    private int answerOfDeal(int what, boolean whenOver) throws NoSuchElementException {
        int pains = turns.byTurns(0, NONE);
        if (pains == NONE) {
            throw new NoSuchElementException();
        }
        if (what == 0) {
            return pains;
        }
        if (what == 1) {
            return worths.goodOf(pains);
        }
        return turns.goesOver(pains) == whenOver ? 1 : 0;
    }

    private int firstOwner(int line, int thing, int times) {
        worths.scale(line, times);
        int found = NONE;
        int most = NOTHING;
        for (int person = 0; person < told.people; person++) {
            turns.asked.copyFrom(told);
            turns.asked.give(thing, 1 << person, 1);
            turns.lookAtAsked();
            int pains = turns.byTurns(0, NONE);
            if (pains != NONE && worths.goodOf(pains) > most) {
                found = person;
                most = worths.goodOf(pains);
            }
        }
        return found;
    }

    /** All that a MARK holds. */
    private static final class Told {
        int people;
        int things;
        int lines;
        int bargain;
        int asker;
        int chance;
        final int[] steps = new int[MOST_PEOPLE];
        final int[] costs = new int[MOST_PEOPLE * 4];
        final int[] with = new int[MOST_LINES];
        final int[] ends = new int[MOST_LINES + 1];
        final int[] code = new int[MOST_SIGNS];
        final int[] owners = new int[MOST_THINGS];
        final int[] needs = new int[MOST_THINGS];
        final int[] laterOwners = new int[MOST_THINGS];
        // 0 where later() has told nothing.
        final int[] laterNeeds = new int[MOST_THINGS];

        Told() {
            clear();
        }

        void clear() {
            people = 0;
            things = 0;
            lines = 0;
            bargain = 0;
            asker = 0;
            chance = 0;
            for (int thing = 0; thing < MOST_THINGS; thing++) {
                owners[thing] = 0;
                needs[thing] = 1;
                laterOwners[thing] = 0;
                laterNeeds[thing] = 0;
            }
        }

        void copyFrom(Told other) {
            people = other.people;
            things = other.things;
            lines = other.lines;
            bargain = other.bargain;
            asker = other.asker;
            chance = other.chance;
            System.arraycopy(other.steps, 0, steps, 0, MOST_PEOPLE);
            System.arraycopy(other.costs, 0, costs, 0, MOST_PEOPLE * 4);
            System.arraycopy(other.with, 0, with, 0, MOST_LINES);
            System.arraycopy(other.ends, 0, ends, 0, MOST_LINES + 1);
            System.arraycopy(other.code, 0, code, 0, MOST_SIGNS);
            System.arraycopy(other.owners, 0, owners, 0, MOST_THINGS);
            System.arraycopy(other.needs, 0, needs, 0, MOST_THINGS);
            System.arraycopy(other.laterOwners, 0, laterOwners, 0, MOST_THINGS);
            System.arraycopy(other.laterNeeds, 0, laterNeeds, 0, MOST_THINGS);
        }

        int all() {
            return (1 << people) - 1;
        }
    }

    /** The TAPE, and what reads it. The text of a line becomes code in which operands come before what joins them. */
    private static final class Reader {
        static final int END = 0;
        static final int BAD = 1;
        static final int NAME = 2;
        static final int NUMBER = 3;
        static final int PERSON = 4;
        static final int COSTS = 5;
        static final int THING = 6;
        static final int MAKES = 7;
        static final int WITH = 8;
        static final int NOT = 9;
        static final int AND = 10;
        static final int OR = 11;
        static final String SIGNS = "()<=+-*;";

        // Words are held as their letters' bytes in one long: these are the eight that are no NAMES.
        static final long WORD_PERSON = 0x706572736F6EL;
        static final long WORD_COSTS = 0x636F737473L;
        static final long WORD_THING = 0x7468696E67L;
        static final long WORD_MAKES = 0x6D616B6573L;
        static final long WORD_WITH = 0x77697468L;
        static final long WORD_NOT = 0x6E6F74L;
        static final long WORD_AND = 0x616E64L;
        static final long WORD_OR = 0x6F72L;

        static final int MISPLACED = 1;
        static final int UNTOLD = 2;
        static final int TOLD_AHEAD = 3;
        static final int BAD_NUMBER = 4;
        static final int TOO_MANY = 5;

        static final int COMPARING = 1;
        static final int PARTS = 4;
        static final int MOST_WITHIN = 5;
        static final int MOST_COST = 999;
        static final int LONGEST_WORD = 8;
        static final int LONGEST_NUMBER = 4;

        // Code below STEP_OF is a number, below OPERATION a person's step, else a token that joins or turns.
        static final int STEP_OF = 10000;
        static final int OPERATION = 20000;

        final char[] signs = new char[MOST_SIGNS];
        final long[] names = new long[MOST_PEOPLE + MOST_THINGS];
        int length;
        int at;
        int token;
        int place;
        int number;
        long word;
        int fault;
        int used;
        Told into;

        void append(long bytes) {
            for (int shift = 56; shift >= 0; shift -= 8) {
                int sign = (int) (bytes >> shift & 255);
                if (length < MOST_SIGNS && (sign == 10 || sign >= 32 && sign <= 126)) {
                    signs[length] = (char) sign;
                    length++;
                }
            }
        }

        int read(Told target) {
            into = target;
            into.clear();
            at = 0;
            used = 0;
            fault = 0;
            take();
            boolean sound = true;
            for (int sentence = 0; sentence <= MOST_SIGNS && sound && token != END; sentence++) {
                if (token == PERSON) {
                    sound = readPerson();
                } else if (token == THING) {
                    sound = readThing();
                } else if (token == MAKES) {
                    sound = readLine();
                } else {
                    sound = wrong(MISPLACED);
                }
            }
            length = 0;
            return fault;
        }

        boolean wrong(int kind) {
            fault = kind + 16 * place;
            return false;
        }

        boolean readPerson() {
            if (into.people >= MOST_PEOPLE) {
                return wrong(TOO_MANY);
            }
            take();
            if (!isNewName()) {
                return false;
            }
            names[into.people] = word;
            take();
            if (token != COSTS) {
                return wrong(MISPLACED);
            }
            take();
            int steps = 0;
            while (steps < MOST_STEPS && token == NUMBER) {
                if (number > MOST_COST) {
                    return wrong(BAD_NUMBER);
                }
                steps++;
                into.costs[into.people * 4 + steps] = number;
                take();
            }
            if (steps == 0 || token != ';') {
                return wrong(MISPLACED);
            }
            into.steps[into.people] = steps;
            into.people++;
            take();
            return true;
        }

        boolean readThing() {
            if (into.things >= MOST_THINGS) {
                return wrong(TOO_MANY);
            }
            take();
            if (!isNewName()) {
                return false;
            }
            names[MOST_PEOPLE + into.things] = word;
            take();
            if (token != ';') {
                return wrong(MISPLACED);
            }
            into.things++;
            take();
            return true;
        }

        boolean readLine() {
            if (into.lines >= MOST_LINES) {
                return wrong(TOO_MANY);
            }
            take();
            if (!readJoined(0, 0)) {
                return false;
            }
            if (token != WITH) {
                return wrong(MISPLACED);
            }
            take();
            int with = 0;
            for (int i = 0; i < MOST_SIGNS && token == NAME; i++) {
                int named = whoseName();
                if (named == NONE) {
                    return wrong(UNTOLD);
                }
                if ((with >> named & 1) == 1) {
                    return wrong(TOLD_AHEAD);
                }
                with |= 1 << named;
                take();
            }
            if (with == 0 || token != ';') {
                return wrong(MISPLACED);
            }
            into.with[into.lines] = with;
            into.lines++;
            into.ends[into.lines] = used;
            take();
            return true;
        }

        boolean isNewName() {
            if (token != NAME) {
                return wrong(MISPLACED);
            }
            return whoseName() == NONE || wrong(TOLD_AHEAD);
        }

        /** The number of the PERSON whose NAME the word is, or that of the THING behind all PEOPLE there can be. */
        int whoseName() {
            for (int person = 0; person < into.people; person++) {
                if (names[person] == word) {
                    return person;
                }
            }
            for (int thing = 0; thing < into.things; thing++) {
                if (names[MOST_PEOPLE + thing] == word) {
                    return MOST_PEOPLE + thing;
                }
            }
            return NONE;
        }

        private boolean readJoined(int level, int within) {
            if (level >= PARTS) {
                return readPart(within);
            }
            if (!readJoined(level + 1, within)) {
                return false;
            }
            int most = level == COMPARING ? 1 : MOST_SIGNS;
            for (int i = 0; i < most && levelOf(token) == level; i++) {
                int joint = token;
                take();
                if (!readJoined(level + 1, within)) {
                    return false;
                }
                put(OPERATION + joint);
            }
            return true;
        }

        private boolean readPart(int within) {
            int named = token == NAME ? whoseName() : NONE;
            if (token == NAME && (named == NONE || named >= MOST_PEOPLE)) {
                return wrong(UNTOLD);
            }
            if (token != NAME && token != NUMBER && token != NOT && token != '(') {
                return wrong(MISPLACED);
            }
            if (within >= MOST_WITHIN) {
                return wrong(TOO_MANY);
            }
            int opened = token;
            if (opened == NAME || opened == NUMBER) {
                put(opened == NUMBER ? number : STEP_OF + named);
                take();
                return true;
            }
            take();
            if (opened == NOT) {
                if (!readPart(within + 1)) {
                    return false;
                }
                put(OPERATION + NOT);
                return true;
            }
            if (!readJoined(0, within + 1)) {
                return false;
            }
            if (token != ')') {
                return wrong(MISPLACED);
            }
            take();
            return true;
        }

        void put(int code) {
            if (used < MOST_SIGNS) {
                into.code[used] = code;
                used++;
            }
        }

        static int levelOf(int token) {
            switch (token) {
                case AND:
                case OR:
                    return 0;
                case '<':
                case '=':
                    return COMPARING;
                case '+':
                case '-':
                    return 2;
                case '*':
                    return 3;
                default:
                    return NONE;
            }
        }

        void take() {
            while (at < length && (signs[at] == 32 || signs[at] == 10)) {
                at++;
            }
            place = at;
            if (at >= length) {
                token = END;
            } else if (isLetter(signs[at])) {
                takeWord();
            } else if (isDigit(signs[at])) {
                takeNumber();
            } else {
                token = SIGNS.indexOf(signs[at]) >= 0 ? signs[at] : BAD;
                at++;
            }
        }

        void takeWord() {
            word = 0;
            while (at < length && isLetter(signs[at])) {
                word = word << 8 | signs[at];
                at++;
            }
            token = at - place > LONGEST_WORD ? BAD : tokenOf(word);
        }

        void takeNumber() {
            number = 0;
            while (at < length && isDigit(signs[at])) {
                number = number * 10 + (signs[at] - '0');
                at++;
            }
            token = at - place > LONGEST_NUMBER ? BAD : NUMBER;
        }

        static boolean isLetter(char sign) {
            return sign >= 'a' && sign <= 'z';
        }

        static boolean isDigit(char sign) {
            return sign >= '0' && sign <= '9';
        }

        static int tokenOf(long word) {
            if (word == WORD_PERSON) {
                return PERSON;
            }
            if (word == WORD_COSTS) {
                return COSTS;
            }
            if (word == WORD_THING) {
                return THING;
            }
            if (word == WORD_MAKES) {
                return MAKES;
            }
            if (word == WORD_WITH) {
                return WITH;
            }
            if (word == WORD_NOT) {
                return NOT;
            }
            if (word == WORD_AND) {
                return AND;
            }
            return word == WORD_OR ? OR : NAME;
        }
    }

    /** The WORTH of all sets by those PAINS that were asked for since something changed. */
    private static final class Worths {
        static final int SETS_BITS = MOST_PEOPLE + MOST_THINGS;
        static final int MOST_WORTH = 99999;

        final Told told = new Told();
        final int[] rows = new int[ROWS_OF_PAINS << SETS_BITS];
        final int[] filled = new int[ROWS_OF_PAINS];
        final long[] values = new long[MOST_LINES];
        // Five levels with four joints each wait for at most 21 operands.
        final int[] stack = new int[32];
        int age = 1;
        int scaledLine = NONE;
        int times = TENTHS;

        void forget() {
            age++;
        }

        void scale(int line, int tenths) {
            scaledLine = line;
            times = tenths;
            age++;
        }

        int valueOf(int people, int things, int pains) {
            fill(pains);
            return rows[pains << SETS_BITS | things << MOST_PEOPLE | people];
        }

        int goodOf(int pains) {
            int good = valueOf(told.all(), (1 << told.things) - 1, pains);
            for (int person = 0; person < told.people; person++) {
                good -= told.costs[person * 4 + stepIn(pains, person)];
            }
            return good;
        }

        void fill(int pains) {
            if (filled[pains] == age) {
                return;
            }
            filled[pains] = age;
            for (int line = 0; line < told.lines; line++) {
                long value = lineValue(line, pains);
                values[line] = line == scaledLine ? value * times / TENTHS : value;
            }
            for (int things = 0; things < 1 << told.things; things++) {
                for (int people = 0; people < 1 << told.people; people++) {
                    int set = things << MOST_PEOPLE | people;
                    rows[pains << SETS_BITS | set] = cutSum(set);
                }
            }
        }

        int cutSum(int set) {
            long sum = 0;
            for (int line = 0; line < told.lines; line++) {
                if ((told.with[line] & ~set) == 0) {
                    sum += values[line];
                }
            }
            return (int) Math.max(-MOST_WORTH, Math.min(MOST_WORTH, sum));
        }

        int lineValue(int line, int pains) {
            int top = 0;
            int end = Math.min(told.ends[line + 1], MOST_SIGNS);
            for (int i = told.ends[line]; i < end; i++) {
                int code = told.code[i];
                if (code < Reader.OPERATION) {
                    if (top < stack.length) {
                        stack[top] = code < Reader.STEP_OF ? code : stepIn(pains, code - Reader.STEP_OF);
                        top++;
                    }
                } else if (code == Reader.OPERATION + Reader.NOT) {
                    if (top > 0) {
                        stack[top - 1] = stack[top - 1] == 0 ? 1 : 0;
                    }
                } else if (top > 1) {
                    top--;
                    stack[top - 1] = joined(code - Reader.OPERATION, stack[top - 1], stack[top]);
                }
            }
            return stack[0];
        }

        static int joined(int joint, int left, int right) {
            switch (joint) {
                case '+':
                    return left + right;
                case '-':
                    return left - right;
                case '*':
                    return left * right;
                case '<':
                    return left < right ? 1 : 0;
                case '=':
                    return left == right ? 1 : 0;
                case Reader.AND:
                    return left != 0 && right != 0 ? 1 : 0;
                default:
                    return left != 0 || right != 0 ? 1 : 0;
            }
        }
    }

    /** An OWNING, and what each set of PEOPLE HAS by it and by the one that may be LATER beside it. */
    private static final class Owning {
        final int[] owners = new int[MOST_THINGS];
        final int[] needs = new int[MOST_THINGS];
        final int[] now = new int[1 << MOST_PEOPLE];
        final int[] later = new int[1 << MOST_PEOPLE];

        static boolean holds(int people, int owners, int need, int all) {
            return owners == 0 ? people == all : Integer.bitCount(people & owners) >= need;
        }

        void copyFrom(Told told) {
            for (int thing = 0; thing < MOST_THINGS; thing++) {
                give(thing, told.owners[thing], told.needs[thing]);
            }
        }

        void give(int thing, int to, int need) {
            owners[thing] = to;
            needs[thing] = need;
        }

        void settle(Told told) {
            int all = told.all();
            for (int people = 0; people <= all; people++) {
                now[people] = 0;
                later[people] = 0;
                for (int thing = 0; thing < told.things; thing++) {
                    boolean same = told.laterNeeds[thing] == 0;
                    int laterOwners = same ? owners[thing] : told.laterOwners[thing];
                    int laterNeed = same ? needs[thing] : told.laterNeeds[thing];
                    if (holds(people, owners[thing], needs[thing], all)) {
                        now[people] |= 1 << thing;
                    }
                    if (holds(people, laterOwners, laterNeed, all)) {
                        later[people] |= 1 << thing;
                    }
                }
            }
        }
    }

    /** What each HAS OF IT, in parts of WHOLE, and the PAINS that come of it by TURNS. */
    private static final class Turns {
        // Bargains divide by 1 to 4 or by as many orders, chances by ten, prices by 1 to 4: all of them divide 240.
        static final int WHOLE = 240;
        static final int PARTS_OF_BARGAIN = 24;
        static final int ALL_ORDERS = 0;
        static final int EVEN_PARTS = 1;
        static final int ONE_ASKS = 2;
        static final int MOST_ROUNDS = 30;
        static final int NO_DEAL = 0;
        static final int RIGHT = 1;
        static final int PLEDGE = 2;

        // Of 24, in how many orders one comes behind just one given set: a row for 1, 2, 3 and 4 PEOPLE.
        private static final int[] ORDERS = {24, 0, 0, 0, 12, 12, 0, 0, 8, 4, 8, 0, 6, 2, 2, 6};

        final Worths worths = new Worths();
        final Told told = worths.told;
        final Owning asked = new Owning();
        final Owning other = new Owning();
        int deal;
        int dealThing;
        int dealer;
        int dealSum;
        int rounds;

        void lookAsIs() {
            asked.copyFrom(told);
            lookAtAsked();
        }

        void lookAtAsked() {
            deal = NO_DEAL;
            asked.settle(told);
        }

        void lookAtRight(int thing, int buyer, int price) {
            lookAtDeal(thing, 1 << buyer, buyer, price);
            deal = RIGHT;
        }

        void lookAtPledge(int thing, int person, int sum) {
            lookAtDeal(thing, 0, person, sum);
            deal = PLEDGE;
        }

        void lookAtDeal(int thing, int ownersAfter, int who, int sum) {
            lookAsIs();
            other.copyFrom(told);
            other.give(thing, ownersAfter, 1);
            other.settle(told);
            dealThing = thing;
            dealer = who;
            dealSum = sum;
        }

        /** Where each goes from 0 on but for the fixed one, who stays as told; NONE if they come to no end. */
        int byTurns(int from, int fixed) {
            int pains = from;
            for (int round = 1; round <= MOST_ROUNDS; round++) {
                int before = pains;
                for (int person = 0; person < told.people; person++) {
                    if (person != fixed) {
                        pains = chosen(person, pains, true);
                    }
                }
                if (pains == before) {
                    rounds = round;
                    return pains;
                }
            }
            return NONE;
        }

        boolean isSettled(int pains) {
            for (int person = 0; person < told.people; person++) {
                if (chosen(person, pains, true) != pains) {
                    return false;
                }
            }
            return true;
        }

        /** The PAINS by the STEP that one WOULD take; who is staying leaves them alone if no other STEP is better. */
        int chosen(int person, int pains, boolean staying) {
            int others = pains & ~(3 << 2 * person);
            int best = others;
            long most = held(person, others);
            boolean content = staying && pains == others;
            for (int step = 1; step <= told.steps[person]; step++) {
                int there = others | step << 2 * person;
                long got = held(person, there);
                if (got > most) {
                    best = there;
                    most = got;
                    content = false;
                }
                if (staying && there == pains && got == most) {
                    content = true;
                }
            }
            return content ? pains : best;
        }

        long held(int person, int pains) {
            worths.fill(pains);
            boolean over = deal != NO_DEAL && goesOver(pains);
            long got = shareOf(over ? other : asked, person, pains);
            if (deal == RIGHT && over || deal == PLEDGE && !over) {
                got += paidTo(person);
            }
            return got - (long) WHOLE * told.costs[person * 4 + stepIn(pains, person)];
        }

        /** Whether the deal's THING changes hands: it is bought, or the pledge is lost. */
        boolean goesOver(int pains) {
            long kept = shareOf(asked, dealer, pains);
            if (deal == PLEDGE) {
                return kept < (long) WHOLE * dealSum;
            }
            return shareOf(other, dealer, pains) + paidTo(dealer) > kept;
        }

        long paidTo(int person) {
            long paid = person == dealer ? -(long) WHOLE * dealSum : 0;
            int sellers = deal == RIGHT ? told.owners[dealThing] : 0;
            int heads = Integer.bitCount(sellers);
            if (heads > 0 && (sellers >> person & 1) == 1) {
                paid += (long) WHOLE / heads * dealSum;
            }
            return paid;
        }

        /** Every bargain is linear in what sets make, so the chance of the later owning goes into that. */
        long shareOf(Owning owning, int person, int pains) {
            int all = told.all();
            int heads = Math.max(1, told.people);
            if (told.bargain == ALL_ORDERS) {
                long sum = 0;
                for (int ahead = 0; ahead <= all; ahead++) {
                    if ((ahead >> person & 1) == 0) {
                        int weight = ORDERS[(heads - 1) * 4 + Integer.bitCount(ahead)];
                        sum += weight * (made(owning, ahead | 1 << person, pains) - made(owning, ahead, pains));
                    }
                }
                return sum;
            }
            long alone = made(owning, 1 << person, pains);
            long left = made(owning, all, pains);
            for (int one = 0; one < told.people; one++) {
                if (told.bargain == EVEN_PARTS || one != told.asker) {
                    left -= made(owning, 1 << one, pains);
                }
            }
            if (told.bargain == EVEN_PARTS) {
                return PARTS_OF_BARGAIN * alone + PARTS_OF_BARGAIN / heads * left;
            }
            return PARTS_OF_BARGAIN * (person == told.asker ? left : alone);
        }

        /** What a set MAKES, in tenths, by chances of the two ownings; the row of the PAINS is filled by then. */
        long made(Owning owning, int people, int pains) {
            int row = pains << Worths.SETS_BITS | people;
            long made = (long) (TENTHS - told.chance) * worths.rows[row | owning.now[people] << MOST_PEOPLE];
            if (told.chance > 0) {
                made += (long) told.chance * worths.rows[row | owning.later[people] << MOST_PEOPLE];
            }
            return made;
        }
    }
}
