import java.util.Arrays;

/**
 * A city in which thieves must put down more than they take. The words in
 * capitals in the comments are those of the document.
 */
public final class BetterThieves {
    public static final int NONE = -1;
    public static final int GAP = -1000000;

    /** The answer of calls that already use NONE for something that is there. */
    private static final int CANT = -2;

    private static final int TAPE_MOST = 1700;
    private static final int KINDS_MOST = 6;
    private static final int THINGS_MOST = 10;
    private static final int HOUSES_MOST = 5;
    private static final int THIEVES_MOST = 4;
    private static final int HOLDERS_MOST = 9;
    private static final int DEARS_MOST = 20;
    private static final int SET_MOST = 3;
    private static final int MINUTES_MOST = 15;
    private static final int LAST_NIGHT = 200;
    private static final int ROUNDS_MOST = 60;
    /** More HOURS without a move than any ROUNDS have. */
    private static final int NEVER = 61;
    private static final int BOXES_MOST = 3;
    private static final int LAID_MOST = 30;
    private static final int STEP_MOST = 1000;
    private static final int TIME_MOST = 100000;

    /** Cells of eight signs, in the order of the numbers below. */
    private static final String WORDS = "kind    thing   house   thief   dear    law     night   of      weight  worth   lock    watch   has     sack    to      or      and     not     taken   left    took    gave    alike   hour    skill   ";
    private static final int CELL = 8;
    private static final int W_KIND = 0;
    private static final int W_THING = 1;
    private static final int W_HOUSE = 2;
    private static final int W_THIEF = 3;
    private static final int W_DEAR = 4;
    private static final int W_LAW = 5;
    private static final int W_NIGHT = 6;
    private static final int W_OF = 7;
    private static final int W_WEIGHT = 8;
    private static final int W_WORTH = 9;
    private static final int W_LOCK = 10;
    private static final int W_WATCH = 11;
    private static final int W_HAS = 12;
    private static final int W_SACK = 13;
    private static final int W_TO = 14;
    private static final int W_OR = 15;
    private static final int W_AND = 16;
    private static final int W_NOT = 17;
    /** From here to the last word: what a law can ask of a THEFT. */
    private static final int W_TAKEN = 18;
    private static final int W_SKILL = 24;

    private static final int NO_TOKEN = 1;
    private static final int MISPLACED = 2;
    private static final int TOLD_ALREADY = 3;
    private static final int BAD_NUMBER = 4;
    private static final int UNKNOWN = 5;

    private final Reader reader = new Reader();
    private final Tokens tape = reader.tokens;
    private City town = new City();
    /** Read into first, so that a FAULT leaves the CITY as it is. */
    private City draft = new City();
    private final State now = new State();
    private final Acts acts = new Acts();
    private final State[] boxes = new State[BOXES_MOST];
    private int filled = 0;
    private final int[] laid = new int[LAID_MOST];
    private int laidCount = 0;
    private final Reports reports = new Reports();
    private int time = 0;
    private final Swaps list = new Swaps();
    private final Rounds rounds = new Rounds();
    private final Search search = new Search();
    /** What is tried out on it is gone with the call. */
    private final State trial = new State();

    public BetterThieves() {
        for (int i = 0; i < BOXES_MOST; i++) {
            boxes[i] = new State();
        }
    }

    public int feed(int a, int b, int c, int d, int e) {
        if (tape.length + 20 > TAPE_MOST) {
            return NONE;
        }
        tape.put(a);
        tape.put(b);
        tape.put(c);
        tape.put(d);
        tape.put(e);
        return tape.length;
    }

    public int end(int n) {
        if (n < 0 || n > tape.length) {
            return NONE;
        }
        tape.length = n;
        return n;
    }

    public int city() {
        tape.split();
        boolean sound = reader.read(draft);
        tape.length = 0;
        if (!sound) {
            return NONE;
        }
        City old = town;
        town = draft;
        draft = old;
        now.begin(town);
        acts.begin(now);
        reports.count = 0;
        laidCount = 0;
        filled = 0;
        return town.things;
    }

    public int fault(int what) {
        if (what == 0) {
            return tape.faultSort;
        }
        return what == 1 ? tape.faultPlace : NONE;
    }

    public int thing(int thing, int what) {
        if (!isThing(thing)) {
            return CANT;
        }
        int holder = now.holderOf(thing);
        switch (what) {
            case 0: return town.kindOf[thing];
            case 1: return town.weight[thing];
            case 2: return town.price[thing];
            case 3: return holder < HOUSES_MOST ? holder : NONE;
            case 4: return holder < HOUSES_MOST ? NONE : holder - HOUSES_MOST;
            default: return CANT;
        }
    }

    public int worth(int thing, int holder, boolean thief) {
        int index = holderIndex(holder, thief);
        if (!isThing(thing) || index == NONE) {
            return NONE;
        }
        return town.valueTo(index, thing);
    }

    public int has(int holder, boolean thief) {
        int index = holderIndex(holder, thief);
        return index == NONE ? NONE : now.held[index];
    }

    public int sum(int holder, boolean thief) {
        int index = holderIndex(holder, thief);
        return index == NONE ? NONE : town.valueOfSet(index, now.held[index]);
    }

    public int thief(int thief, int what) {
        if (!isThief(thief)) {
            return NONE;
        }
        switch (what) {
            case 0: return now.jail >> thief & 1;
            case 1: return now.crimes[thief];
            case 2: return town.weightOfSet(now.held[HOUSES_MOST + thief]);
            default: return NONE;
        }
    }

    public int minutes(int thief, int house, int things) {
        if (!isThief(thief) || !isHouse(house) || things < 1 || things > 2 * SET_MOST) {
            return NONE;
        }
        return town.minutesOf(thief, house, things);
    }

    public int may(int thief, int house, int taken, int left, int what) {
        if (!isTheft(thief, house, taken, left)) {
            return NONE;
        }
        switch (what) {
            case 0: return town.canBe(now, thief, house, taken, left) ? 1 : 0;
            case 1: return town.isSeen(house, now.hour) ? 1 : 0;
            case 2: return town.isLawful(house, taken, left, now.hour, town.skill[thief]) ? 1 : 0;
            default: return NONE;
        }
    }

    public int theft(int thief, int house, int taken, int left) {
        if (now.night >= LAST_NIGHT || !isTheft(thief, house, taken, left)
                || !town.canBe(now, thief, house, taken, left)) {
            return NONE;
        }
        int answer = 2;
        if (town.isSeen(house, now.hour)) {
            now.jail |= 1 << thief;
        } else {
            answer = town.isLawful(house, taken, left, now.hour, town.skill[thief]) ? 1 : 0;
            now.exchange(thief, house, taken, left);
            now.crimes[thief] += 1 - answer;
        }
        now.passHour(town.hours);
        acts.add(now);
        return answer;
    }

    public int waits() {
        if (now.night >= LAST_NIGHT) {
            return NONE;
        }
        now.passHour(town.hours);
        acts.add(now);
        return now.hour;
    }

    public boolean gift(int thing, int holder, boolean thief) {
        int to = holderIndex(holder, thief);
        if (!isThing(thing) || to == NONE) {
            return false;
        }
        int from = now.holderOf(thing);
        if (from == to) {
            return false;
        }
        if (from != NONE) {
            now.held[from] &= ~(1 << thing);
        }
        now.held[to] |= 1 << thing;
        acts.add(now);
        return true;
    }

    public boolean undo() {
        return acts.step(NONE, now);
    }

    public boolean redo() {
        return acts.step(1, now);
    }

    public int swaps(int thief) {
        if (!isThief(thief)) {
            return NONE;
        }
        list.gather(town, now, thief);
        return list.count;
    }

    public int best(int thief) {
        laidCount = 0;
        if (!isThief(thief)) {
            return GAP;
        }
        list.gather(town, now, thief);
        int i = list.pick();
        if (i == NONE) {
            return GAP;
        }
        lay(list.house[i]);
        lay(list.thing[i]);
        lay(list.left[i]);
        return list.gain[i];
    }

    public int tour(int thief, int thing) {
        laidCount = 0;
        if (!isThief(thief) || !isThing(thing)) {
            return NONE;
        }
        int hours = search.run(town, now, thief, thing);
        if (hours > 0) {
            laidCount = search.layPath(hours, laid);
        }
        return hours;
    }

    public int drift(int thing, int n) {
        if (!isThing(thing) || n < 0 || n > ROUNDS_MOST) {
            return CANT;
        }
        rounds.run(town, now, n, NEVER);
        int holder = rounds.scene.holderOf(thing);
        return holder < HOUSES_MOST ? holder : holder - HOUSES_MOST + 10;
    }

    public int sums(int holder, boolean thief, int n) {
        int index = holderIndex(holder, thief);
        if (index == NONE || n < 0 || n > ROUNDS_MOST) {
            return NONE;
        }
        rounds.run(town, now, n, NEVER);
        return town.valueOfSet(index, rounds.scene.held[index]);
    }

    public int rests() {
        return rounds.run(town, now, ROUNDS_MOST, town.hours);
    }

    public int lie(int house, int n, int what) {
        if (!isHouse(house) || n < 1 || n > 4 || what < 0 || what > 2) {
            return CANT;
        }
        rounds.findLie(town, now, house, n);
        if (what == 0) {
            return rounds.lieSum;
        }
        return what == 1 ? rounds.lieThing : rounds.lieWorth;
    }

    public int unbettered(int house) {
        if (!isHouse(house)) {
            return NONE;
        }
        int set = 0;
        for (int thing = 0; thing < town.things; thing++) {
            if ((now.held[house] >> thing & 1) != 0 && !canBeBettered(house, thing)) {
                set |= 1 << thing;
            }
        }
        return set;
    }

    private boolean canBeBettered(int house, int thing) {
        for (int thief = 0; thief < town.thieves; thief++) {
            int skill = town.skill[thief];
            list.splitStock(town, now, thief);
            for (int i = 0; i < list.sets; i++) {
                if (town.isLawfulFor(house, thing, list.high[i], list.low[i], now.hour, skill)) {
                    return true;
                }
            }
        }
        return false;
    }

    public int loopholes() {
        laidCount = 0;
        int count = 0;
        for (int thief = 0; thief < town.thieves; thief++) {
            list.gather(town, now, thief);
            for (int i = 0; i < list.count; i++) {
                if (Integer.bitCount(list.left[i]) == 1 && canUndo(thief, i)) {
                    layLoophole(thief, i);
                    count++;
                }
            }
        }
        return count;
    }

    private boolean canUndo(int thief, int i) {
        int house = list.house[i];
        int taken = 1 << list.thing[i];
        trial.copy(now);
        trial.exchange(thief, house, taken, list.left[i]);
        return town.isSwap(trial, thief, house, list.left[i], taken);
    }

    private void layLoophole(int thief, int i) {
        if (laidCount > 0) {
            return;
        }
        lay(thief);
        lay(list.house[i]);
        lay(list.thing[i]);
        lay(Integer.numberOfTrailingZeros(list.left[i]));
    }

    public int who(int box) {
        laidCount = 0;
        if (!isFilled(box)) {
            return NONE;
        }
        int count = 0;
        for (int thief = 0; thief < town.thieves; thief++) {
            for (int hour = 0; hour < town.hours; hour++) {
                trial.copy(boxes[box]);
                trial.jail = 0;
                trial.hour = hour;
                list.gather(town, trial, thief);
                for (int i = 0; i < list.count; i++) {
                    if (leadsToNow(thief, i)) {
                        layDoer(thief, hour, i);
                        count++;
                    }
                }
            }
        }
        return count;
    }

    private boolean leadsToNow(int thief, int i) {
        int house = list.house[i];
        int moved = 1 << list.thing[i] | list.left[i];
        for (int holder = 0; holder < HOLDERS_MOST; holder++) {
            boolean takesPart = holder == house || holder == HOUSES_MOST + thief;
            int then = takesPart ? trial.held[holder] ^ moved : trial.held[holder];
            if (then != now.held[holder]) {
                return false;
            }
        }
        return true;
    }

    private void layDoer(int thief, int hour, int i) {
        if (laidCount > 0) {
            return;
        }
        lay(thief);
        lay(hour);
        lay(list.house[i]);
        lay(list.thing[i]);
        lay(list.left[i]);
    }

    public int lies(int i) {
        return i >= 0 && i < laidCount ? laid[i] : GAP;
    }

    public int report(int house, int taken, int left, int hour, boolean lawful) {
        if (!isHouse(house) || !isThing(taken) || !isThing(left) || taken == left
                || hour < 0 || hour >= town.hours) {
            return NONE;
        }
        return reports.add(house, taken, left, hour, lawful, time);
    }

    public boolean untell(int report) {
        return reports.takeBack(report, time);
    }

    public int later(int by) {
        if (by < 0 || by > STEP_MOST || time + by > TIME_MOST) {
            return NONE;
        }
        time += by;
        return time;
    }

    public int span(int house, int thing, int what, int k) {
        if (!isHouse(house) || !isThing(thing) || what < 0 || what > 2) {
            return CANT;
        }
        reports.fit(town, house, thing, k);
        if (what == 0) {
            return reports.fitting;
        }
        return what == 1 ? reports.least : reports.most;
    }

    public int ask(int house, int thing, int what, int k) {
        if (!isHouse(house) || !isThing(thing) || what < 0 || what > 1) {
            return CANT;
        }
        reports.fit(town, house, thing, k);
        if (reports.fitting == 0 || town.things < 2) {
            return NONE;
        }
        reports.findQuestion(town, house, thing);
        return what == 0 ? 10 * reports.askTaken + reports.askLeft : reports.askMost;
    }

    public int image(int box) {
        if (box < 0 || box >= BOXES_MOST) {
            return NONE;
        }
        boxes[box].copy(now);
        filled |= 1 << box;
        return now.night;
    }

    public int back(int box) {
        if (!isFilled(box)) {
            return NONE;
        }
        now.copy(boxes[box]);
        acts.begin(now);
        return now.night;
    }

    public int about(int what) {
        switch (what) {
            case 0: return town.things;
            case 1: return town.houses;
            case 2: return town.thieves;
            case 3: return town.kinds;
            case 4: return now.night;
            case 5: return now.hour;
            case 6: return town.hours;
            case 7: return now.jail;
            case 8: return now.crimesInAll();
            case 9: return acts.at;
            case 10: return acts.count - acts.at;
            case 11: return reports.count;
            case 12: return time;
            case 13: return tape.length;
            case 14: return town.law.units;
            case 15: return laidCount;
            default: return NONE;
        }
    }

    private void lay(int number) {
        if (laidCount < LAID_MOST) {
            laid[laidCount] = number;
            laidCount++;
        }
    }

    private boolean isThing(int thing) {
        return thing >= 0 && thing < town.things;
    }

    private boolean isHouse(int house) {
        return house >= 0 && house < town.houses;
    }

    private boolean isThief(int thief) {
        return thief >= 0 && thief < town.thieves;
    }

    private boolean isFilled(int box) {
        return box >= 0 && box < BOXES_MOST && (filled >> box & 1) != 0;
    }

    /** HOUSES come first in every row of HOLDERS, THIEVES behind them. */
    private int holderIndex(int holder, boolean thief) {
        if (thief) {
            return isThief(holder) ? HOUSES_MOST + holder : NONE;
        }
        return isHouse(holder) ? holder : NONE;
    }

    private boolean isTheft(int thief, int house, int taken, int left) {
        if (!isThief(thief) || !isHouse(house) || taken == 0) {
            return false;
        }
        return isPart(taken, now.held[house]) && isPart(left, now.held[HOUSES_MOST + thief]);
    }

    private static boolean isPart(int set, int whole) {
        return (set & ~whole) == 0 && Integer.bitCount(set) <= SET_MOST;
    }

    /** What the text of a CITY tells. */
    private static final class City {
        int hours = 6;
        int kinds = 0;
        int things = 0;
        int houses = 0;
        int thieves = 0;
        final int[] kindOf = new int[THINGS_MOST];
        final int[] weight = new int[THINGS_MOST];
        final int[] price = new int[THINGS_MOST];
        final int[] lock = new int[HOUSES_MOST];
        final int[] watch = new int[HOUSES_MOST];
        final int[] sack = new int[THIEVES_MOST];
        final int[] skill = new int[THIEVES_MOST];
        /** A row of WORTHS for each HOLDER; while it is read, NONE where nothing is told dear. */
        final int[] value = new int[HOLDERS_MOST * THINGS_MOST];
        /** The rows of HOUSES as law counts them: not the same while LIE, SPAN or ASK try others. */
        final int[] said = new int[HOUSES_MOST * THINGS_MOST];
        final int[] held = new int[HOLDERS_MOST];
        final Law law = new Law();

        void clear() {
            hours = 6;
            kinds = 0;
            things = 0;
            houses = 0;
            thieves = 0;
            Arrays.fill(watch, 0);
            Arrays.fill(value, NONE);
            Arrays.fill(held, 0);
            law.clear();
        }

        /** What is not told dear is WORTH the same to all. */
        void settle() {
            for (int cell = 0; cell < HOLDERS_MOST * THINGS_MOST; cell++) {
                if (value[cell] == NONE) {
                    value[cell] = price[cell % THINGS_MOST];
                }
            }
            System.arraycopy(value, 0, said, 0, HOUSES_MOST * THINGS_MOST);
        }

        int valueTo(int holder, int thing) {
            return value[holder * THINGS_MOST + thing];
        }

        int valueOfSet(int holder, int set) {
            int total = 0;
            for (int thing = 0; thing < things; thing++) {
                if ((set >> thing & 1) != 0) {
                    total += valueTo(holder, thing);
                }
            }
            return total;
        }

        int weightOfSet(int set) {
            int total = 0;
            for (int thing = 0; thing < things; thing++) {
                if ((set >> thing & 1) != 0) {
                    total += weight[thing];
                }
            }
            return total;
        }

        int minutesOf(int thief, int house, int count) {
            return Math.max(1, lock[house] - skill[thief]) + 2 * count;
        }

        boolean canBe(State state, int thief, int house, int taken, int left) {
            if ((state.jail >> thief & 1) != 0) {
                return false;
            }
            int count = Integer.bitCount(taken) + Integer.bitCount(left);
            int then = state.held[HOUSES_MOST + thief] & ~left | taken;
            return minutesOf(thief, house, count) <= MINUTES_MOST && weightOfSet(then) <= sack[thief];
        }

        boolean isSeen(int house, int hour) {
            return (watch[house] >> hour & 1) != 0;
        }

        boolean isSwap(State state, int thief, int house, int taken, int left) {
            return !isSeen(house, state.hour) && canBe(state, thief, house, taken, left)
                    && isLawful(house, taken, left, state.hour, skill[thief]);
        }

        boolean isLawful(int house, int taken, int left, int hour, int skill) {
            int takenKinds = 0;
            int takenWorth = 0;
            int alike = 0;
            int leftWorth = 0;
            for (int thing = 0; thing < things; thing++) {
                if ((taken >> thing & 1) != 0) {
                    takenKinds |= 1 << kindOf[thing];
                    takenWorth += said[house * THINGS_MOST + thing];
                }
            }
            for (int thing = 0; thing < things; thing++) {
                if ((left >> thing & 1) != 0) {
                    alike += takenKinds >> kindOf[thing] & 1;
                    leftWorth += said[house * THINGS_MOST + thing];
                }
            }
            return law.allows(takenWorth, leftWorth, Integer.bitCount(taken), Integer.bitCount(left),
                    alike, hour, skill);
        }

        /** The same for one THING and one or two (low is NONE), without a walk through sets: it is asked most. */
        boolean isLawfulFor(int house, int thing, int high, int low, int hour, int skill) {
            int row = house * THINGS_MOST;
            int gave = 1;
            int alike = kindOf[high] == kindOf[thing] ? 1 : 0;
            int leftWorth = said[row + high];
            if (low != NONE) {
                gave = 2;
                alike += kindOf[low] == kindOf[thing] ? 1 : 0;
                leftWorth += said[row + low];
            }
            return law.allows(said[row + thing], leftWorth, 1, gave, alike, hour, skill);
        }

        void say(int house, int thing, int worth) {
            said[house * THINGS_MOST + thing] = worth;
        }

        void sayTruth(int house, int thing) {
            say(house, thing, valueTo(house, thing));
        }
    }

    /** The law as steps on a stack, so that no formula needs recursion to be asked. */
    private static final class Law {
        static final int NUMBER = 0;
        static final int GIVEN = 1;
        static final int NOT = 2;
        static final int AND = 3;
        static final int OR = 4;
        static final int UNITS_MOST = 30;
        /** 30 units, 29 signs between them and 7 nots ahead of each are fewer. */
        static final int STEPS_MOST = 300;

        final int[] step = new int[STEPS_MOST];
        final int[] argument = new int[STEPS_MOST];
        final int[] stack = new int[UNITS_MOST];
        final int[] given = new int[W_SKILL - W_TAKEN + 1];
        int length = 0;
        int units = 0;

        void clear() {
            length = 0;
            units = 0;
        }

        void put(int sort, int number) {
            if (length < STEPS_MOST) {
                step[length] = sort;
                argument[length] = number;
                length++;
            }
        }

        boolean allows(int taken, int left, int took, int gave, int alike, int hour, int skill) {
            if (length == 0) {
                return left > taken;
            }
            given[0] = taken;
            given[1] = left;
            given[2] = took;
            given[3] = gave;
            given[4] = alike;
            given[5] = hour;
            given[6] = skill;
            int top = 0;
            for (int i = 0; i < length; i++) {
                int sort = step[i];
                if (sort == NUMBER || sort == GIVEN) {
                    if (top >= UNITS_MOST) {
                        return false;
                    }
                    stack[top] = sort == NUMBER ? argument[i] : given[argument[i]];
                    top++;
                } else if (top >= 1 && sort == NOT) {
                    stack[top - 1] = stack[top - 1] == 0 ? 1 : 0;
                } else if (top >= 2) {
                    top--;
                    stack[top - 1] = joined(sort, stack[top - 1], stack[top]);
                }
            }
            return stack[0] != 0;
        }

        private static int joined(int sort, int a, int b) {
            switch (sort) {
                case AND: return a != 0 && b != 0 ? 1 : 0;
                case OR: return a != 0 || b != 0 ? 1 : 0;
                case '<': return a < b ? 1 : 0;
                case '>': return a > b ? 1 : 0;
                case '=': return a == b ? 1 : 0;
                case '+': return a + b;
                case '-': return a - b;
                case '*': return a * b;
                case '/': return b == 0 ? 0 : a / b;
                default: return b == 0 ? 0 : a % b;
            }
        }
    }

    /** The TAPE, its TOKENS, gone through one at a time, and the first FAULT in it. */
    private static final class Tokens {
        static final int END = 0;
        static final int BROKEN = 1;
        static final int NAME = 2;
        static final int WORD = 3;
        static final int NUMBER = 4;
        static final int SIGN = 5;
        static final String SIGNS = ";()<>=+-*/%";

        final int[] text = new int[TAPE_MOST];
        int length = 0;
        final int[] starts = new int[TAPE_MOST + 1];
        final int[] sorts = new int[TAPE_MOST + 1];
        /** Which word, number or sign it is; the letters of a NAME as one number. */
        final long[] values = new long[TAPE_MOST + 1];
        int count = 0;
        int at = 0;
        int faultSort = 0;
        int faultPlace = NONE;

        void put(int number) {
            for (int shift = 24; shift >= 0 && length < TAPE_MOST; shift -= 8) {
                text[length] = number >>> shift & 255;
                length++;
            }
        }

        /** Up to the first that is none, or to the end: nothing behind them is asked for. */
        void split() {
            count = 0;
            at = 0;
            faultSort = 0;
            faultPlace = NONE;
            int place = skipBlanks(0);
            while (place < length && count < TAPE_MOST) {
                int behind = readToken(place);
                if (sorts[count] == BROKEN) {
                    return;
                }
                count++;
                place = skipBlanks(behind);
            }
            starts[count] = length;
            sorts[count] = END;
        }

        private int skipBlanks(int place) {
            int behind = place;
            while (behind < length && (text[behind] == 32 || text[behind] == 10)) {
                behind++;
            }
            return behind;
        }

        /** The place behind it. */
        private int readToken(int place) {
            starts[count] = place;
            if (isLetter(text[place])) {
                return readWord(place);
            }
            if (isDigit(text[place])) {
                return readDigits(place);
            }
            values[count] = text[place];
            sorts[count] = SIGNS.indexOf((char) text[place]) < 0 ? BROKEN : SIGN;
            return place + 1;
        }

        private int readWord(int place) {
            int behind = place;
            long letters = 0;
            while (behind < length && isLetter(text[behind])) {
                letters = letters * 27 + text[behind] - 'a' + 1;
                behind++;
            }
            int number = wordNumber(place, behind);
            values[count] = number == NONE ? letters : number;
            sorts[count] = behind - place > CELL ? BROKEN : number == NONE ? NAME : WORD;
            return behind;
        }

        private int readDigits(int place) {
            int behind = place;
            int number = 0;
            while (behind < length && isDigit(text[behind])) {
                number = number * 10 + text[behind] - '0';
                behind++;
            }
            boolean letterBehind = behind < length && isLetter(text[behind]);
            values[count] = number;
            sorts[count] = behind - place > 4 || letterBehind ? BROKEN : NUMBER;
            return behind;
        }

        private int wordNumber(int place, int behind) {
            for (int number = 0; (number + 1) * CELL <= WORDS.length(); number++) {
                if (fillsCell(number * CELL, place, behind)) {
                    return number;
                }
            }
            return NONE;
        }

        private boolean fillsCell(int cell, int place, int behind) {
            for (int i = 0; i < CELL; i++) {
                int sign = place + i < behind ? text[place + i] : ' ';
                if (WORDS.charAt(cell + i) != sign) {
                    return false;
                }
            }
            return true;
        }

        private static boolean isLetter(int sign) {
            return sign >= 'a' && sign <= 'z';
        }

        private static boolean isDigit(int sign) {
            return sign >= '0' && sign <= '9';
        }

        void next() {
            if (at < count) {
                at++;
            }
        }

        boolean isSort(int sort) {
            return sorts[at] == sort;
        }

        int number() {
            return (int) values[at];
        }

        boolean isWord(int number) {
            return sorts[at] == WORD && values[at] == number;
        }

        boolean isSign(int sign) {
            return sorts[at] == SIGN && values[at] == sign;
        }

        boolean takeWord(int number) {
            if (!isWord(number)) {
                return refuse();
            }
            next();
            return true;
        }

        boolean takeSign(int sign) {
            if (!isSign(sign)) {
                return refuse();
            }
            next();
            return true;
        }

        /** The TOKEN can't stand where it is, if it is one. */
        boolean refuse() {
            return fail(sorts[at] == BROKEN ? NO_TOKEN : MISPLACED);
        }

        boolean fail(int what) {
            faultSort = what;
            faultPlace = starts[at];
            return false;
        }
    }

    /** Reads lines; each method answers false at the first FAULT. */
    private static final class Reader {
        final Formula formula = new Formula();
        final Tokens tokens = formula.tokens;
        final long[] kindNames = new long[KINDS_MOST];
        final long[] thingNames = new long[THINGS_MOST];
        final long[] holderNames = new long[HOLDERS_MOST];
        /** Where each named HOLDER stands in the rows of HOLDERS. */
        final int[] holderPlaces = new int[HOLDERS_MOST];
        int holders = 0;
        int dears = 0;
        int placed = 0;
        /** The number or the index that was read last. */
        int got = 0;

        boolean read(City draft) {
            draft.clear();
            holders = 0;
            dears = 0;
            placed = 0;
            for (int lines = 0; lines < TAPE_MOST && !tokens.isSort(Tokens.END); lines++) {
                if (!readLine(lines, draft) || !tokens.takeSign(';')) {
                    return false;
                }
            }
            draft.settle();
            return true;
        }

        private boolean readLine(int lines, City draft) {
            if (!tokens.isSort(Tokens.WORD)) {
                return tokens.refuse();
            }
            switch (tokens.number()) {
                case W_KIND: return readKind(draft);
                case W_THING: return readThing(draft);
                case W_HOUSE: return readHouse(draft);
                case W_THIEF: return readThief(draft);
                case W_DEAR: return readDear(draft);
                case W_LAW: return readLaw(draft);
                case W_NIGHT: return readNight(lines, draft);
                default: return tokens.refuse();
            }
        }

        private boolean readNight(int lines, City draft) {
            if (lines > 0) {
                return tokens.refuse();
            }
            tokens.next();
            if (!readNumber(1, 9)) {
                return false;
            }
            tokens.next();
            draft.hours = got;
            return true;
        }

        private boolean readKind(City draft) {
            if (draft.kinds >= KINDS_MOST) {
                return tokens.refuse();
            }
            tokens.next();
            if (!readNewName(kindNames, draft.kinds)) {
                return false;
            }
            draft.kinds++;
            return true;
        }

        private boolean readThing(City draft) {
            int thing = draft.things;
            if (thing >= THINGS_MOST) {
                return tokens.refuse();
            }
            tokens.next();
            if (!readNewName(thingNames, thing) || !tokens.takeWord(W_OF)
                    || !readOldName(kindNames, draft.kinds)) {
                return false;
            }
            draft.kindOf[thing] = got;
            tokens.next();
            if (!readNumberOf(W_WEIGHT, 99)) {
                return false;
            }
            draft.weight[thing] = got;
            if (!readNumberOf(W_WORTH, 99)) {
                return false;
            }
            draft.price[thing] = got;
            draft.things++;
            return true;
        }

        private boolean readHouse(City draft) {
            int house = draft.houses;
            if (house >= HOUSES_MOST) {
                return tokens.refuse();
            }
            tokens.next();
            if (!readHolder(house) || !readNumberOf(W_LOCK, 9)) {
                return false;
            }
            draft.lock[house] = got;
            draft.houses++;
            return readWatches(draft, house) && readStock(draft, house);
        }

        private boolean readThief(City draft) {
            int thief = draft.thieves;
            if (thief >= THIEVES_MOST) {
                return tokens.refuse();
            }
            tokens.next();
            if (!readHolder(HOUSES_MOST + thief) || !readNumberOf(W_SACK, 999)) {
                return false;
            }
            draft.sack[thief] = got;
            if (!readNumberOf(W_SKILL, 9)) {
                return false;
            }
            draft.skill[thief] = got;
            draft.thieves++;
            return readStock(draft, HOUSES_MOST + thief);
        }

        private boolean readHolder(int place) {
            if (holders >= HOLDERS_MOST || !readNewName(holderNames, holders)) {
                return false;
            }
            holderPlaces[holders] = place;
            holders++;
            return true;
        }

        private boolean readWatches(City draft, int house) {
            for (int i = 0; i < TAPE_MOST && tokens.isWord(W_WATCH); i++) {
                tokens.next();
                if (!readNumber(0, draft.hours - 1)) {
                    return false;
                }
                if (draft.isSeen(house, got)) {
                    return tokens.fail(TOLD_ALREADY);
                }
                draft.watch[house] |= 1 << got;
                tokens.next();
            }
            return true;
        }

        private boolean readStock(City draft, int place) {
            for (int i = 0; i < TAPE_MOST && tokens.isWord(W_HAS); i++) {
                tokens.next();
                if (!readOldName(thingNames, draft.things)) {
                    return false;
                }
                if ((placed >> got & 1) != 0) {
                    return tokens.fail(TOLD_ALREADY);
                }
                placed |= 1 << got;
                draft.held[place] |= 1 << got;
                tokens.next();
            }
            return true;
        }

        private boolean readDear(City draft) {
            if (dears >= DEARS_MOST) {
                return tokens.refuse();
            }
            tokens.next();
            if (!readOldName(thingNames, draft.things)) {
                return false;
            }
            int thing = got;
            tokens.next();
            if (!tokens.takeWord(W_TO) || !readOldName(holderNames, holders)) {
                return false;
            }
            int cell = holderPlaces[got] * THINGS_MOST + thing;
            if (draft.value[cell] != NONE) {
                return tokens.fail(TOLD_ALREADY);
            }
            tokens.next();
            if (!readNumber(0, 99)) {
                return false;
            }
            tokens.next();
            draft.value[cell] = got;
            dears++;
            return true;
        }

        private boolean readLaw(City draft) {
            if (draft.law.length > 0) {
                return tokens.refuse();
            }
            tokens.next();
            return formula.readEither(draft.law, 0);
        }

        private boolean readNumberOf(int word, int most) {
            if (!tokens.takeWord(word) || !readNumber(0, most)) {
                return false;
            }
            tokens.next();
            return true;
        }

        /** Stays at the number, since another FAULT of it is told there. */
        private boolean readNumber(int least, int most) {
            if (!tokens.isSort(Tokens.NUMBER)) {
                return tokens.refuse();
            }
            got = tokens.number();
            return got >= least && got <= most || tokens.fail(BAD_NUMBER);
        }

        private boolean readNewName(long[] names, int count) {
            if (!tokens.isSort(Tokens.NAME)) {
                return tokens.refuse();
            }
            if (placeOf(names, count) != NONE) {
                return tokens.fail(TOLD_ALREADY);
            }
            if (count < names.length) {
                names[count] = tokens.values[tokens.at];
            }
            tokens.next();
            return true;
        }

        /** Stays at the NAME, since a FAULT of what it names is told there. */
        private boolean readOldName(long[] names, int count) {
            if (!tokens.isSort(Tokens.NAME)) {
                return tokens.refuse();
            }
            got = placeOf(names, count);
            return got != NONE || tokens.fail(UNKNOWN);
        }

        private int placeOf(long[] names, int count) {
            for (int i = 0; i < count && i < names.length; i++) {
                if (names[i] == tokens.values[tokens.at]) {
                    return i;
                }
            }
            return NONE;
        }
    }

    /** Reads the e of a law; within says in how many units ( e ) and nots it stands. */
    private static final class Formula {
        static final int WITHIN_MOST = 6;

        final Tokens tokens = new Tokens();

        private boolean readEither(Law law, int within) {
            if (!readBoth(law, within)) {
                return false;
            }
            for (int i = 0; i < TAPE_MOST && tokens.isWord(W_OR); i++) {
                tokens.next();
                if (!readBoth(law, within)) {
                    return false;
                }
                law.put(Law.OR, 0);
            }
            return true;
        }

        private boolean readBoth(Law law, int within) {
            if (!readOne(law, within)) {
                return false;
            }
            for (int i = 0; i < TAPE_MOST && tokens.isWord(W_AND); i++) {
                tokens.next();
                if (!readOne(law, within)) {
                    return false;
                }
                law.put(Law.AND, 0);
            }
            return true;
        }

        private boolean readOne(Law law, int within) {
            if (tokens.isWord(W_NOT)) {
                return readNot(law, within);
            }
            if (!readTotal(law, within)) {
                return false;
            }
            if (!tokens.isSign('<') && !tokens.isSign('>') && !tokens.isSign('=')) {
                return true;
            }
            int sign = tokens.number();
            tokens.next();
            if (!readTotal(law, within)) {
                return false;
            }
            law.put(sign, 0);
            return true;
        }

        private boolean readNot(Law law, int within) {
            if (within > WITHIN_MOST) {
                return tokens.refuse();
            }
            tokens.next();
            if (!readOne(law, within + 1)) {
                return false;
            }
            law.put(Law.NOT, 0);
            return true;
        }

        private boolean readTotal(Law law, int within) {
            if (!readTerm(law, within)) {
                return false;
            }
            for (int i = 0; i < TAPE_MOST && (tokens.isSign('+') || tokens.isSign('-')); i++) {
                int sign = tokens.number();
                tokens.next();
                if (!readTerm(law, within)) {
                    return false;
                }
                law.put(sign, 0);
            }
            return true;
        }

        private boolean readTerm(Law law, int within) {
            if (!readUnit(law, within)) {
                return false;
            }
            for (int i = 0; i < TAPE_MOST && isTimes(); i++) {
                int sign = tokens.number();
                tokens.next();
                if (!readUnit(law, within)) {
                    return false;
                }
                law.put(sign, 0);
            }
            return true;
        }

        private boolean isTimes() {
            return tokens.isSign('*') || tokens.isSign('/') || tokens.isSign('%');
        }

        private boolean readUnit(Law law, int within) {
            if (law.units >= Law.UNITS_MOST) {
                return tokens.refuse();
            }
            if (tokens.isSign('(')) {
                return readInner(law, within);
            }
            if (tokens.isSort(Tokens.NUMBER)) {
                law.put(Law.NUMBER, tokens.number());
            } else if (tokens.isSort(Tokens.WORD) && tokens.number() >= W_TAKEN) {
                law.put(Law.GIVEN, tokens.number() - W_TAKEN);
            } else {
                return tokens.refuse();
            }
            law.units++;
            tokens.next();
            return true;
        }

        private boolean readInner(Law law, int within) {
            if (within > WITHIN_MOST) {
                return tokens.refuse();
            }
            law.units++;
            tokens.next();
            return readEither(law, within + 1) && tokens.takeSign(')');
        }
    }

    /** Where THINGS are, and what else is so in earnest. */
    private static final class State {
        /** What each HOLDER has, as bits. */
        final int[] held = new int[HOLDERS_MOST];
        final int[] crimes = new int[THIEVES_MOST];
        int night = 0;
        int hour = 0;
        int jail = 0;

        void begin(City town) {
            System.arraycopy(town.held, 0, held, 0, HOLDERS_MOST);
            Arrays.fill(crimes, 0);
            night = 0;
            hour = 0;
            jail = 0;
        }

        void copy(State other) {
            System.arraycopy(other.held, 0, held, 0, HOLDERS_MOST);
            System.arraycopy(other.crimes, 0, crimes, 0, THIEVES_MOST);
            night = other.night;
            hour = other.hour;
            jail = other.jail;
        }

        int holderOf(int thing) {
            for (int holder = 0; holder < HOLDERS_MOST; holder++) {
                if ((held[holder] >> thing & 1) != 0) {
                    return holder;
                }
            }
            return NONE;
        }

        void exchange(int thief, int house, int taken, int left) {
            held[house] = held[house] & ~taken | left;
            held[HOUSES_MOST + thief] = held[HOUSES_MOST + thief] & ~left | taken;
        }

        void passHour(int hours) {
            hour++;
            if (hour >= hours) {
                hour = 0;
                night++;
                jail = 0;
            }
        }

        int crimesInAll() {
            int total = 0;
            for (int thief = 0; thief < THIEVES_MOST; thief++) {
                total += crimes[thief];
            }
            return total;
        }
    }

    /** The states between the ACTS that are kept, in a ring. */
    private static final class Acts {
        static final int ACTS_MOST = 40;

        final State[] ring = new State[ACTS_MOST + 1];
        int first = 0;
        int count = 0;
        /** How many of the ACTS are not taken back. */
        int at = 0;

        Acts() {
            for (int i = 0; i <= ACTS_MOST; i++) {
                ring[i] = new State();
            }
        }

        void begin(State now) {
            first = 0;
            count = 0;
            at = 0;
            ring[0].copy(now);
        }

        void add(State now) {
            if (at == ACTS_MOST) {
                first = (first + 1) % (ACTS_MOST + 1);
                at--;
            }
            at++;
            count = at;
            stateAt(at).copy(now);
        }

        boolean step(int by, State now) {
            if (at + by < 0 || at + by > count) {
                return false;
            }
            at += by;
            now.copy(stateAt(at));
            return true;
        }

        private State stateAt(int act) {
            return ring[(first + act) % (ACTS_MOST + 1)];
        }
    }

    /** The SWAPS of one THIEF, in their order. */
    private static final class Swaps {
        /** With 10 THINGS in all there are at most 84 SWAPS: 4 in HOUSES, for 21 sets of 6. */
        static final int SWAPS_MOST = 100;
        static final int SETS_MOST = 55;

        final int[] house = new int[SWAPS_MOST];
        final int[] thing = new int[SWAPS_MOST];
        final int[] left = new int[SWAPS_MOST];
        final int[] gain = new int[SWAPS_MOST];
        int count = 0;
        /** The sets of one THING (low is NONE) or two that a STOCK has, the least first. */
        final int[] high = new int[SETS_MOST];
        final int[] low = new int[SETS_MOST];
        final int[] setWeight = new int[SETS_MOST];
        final int[] setValue = new int[SETS_MOST];
        int sets = 0;

        void splitStock(City town, State state, int thief) {
            int stock = state.held[HOUSES_MOST + thief];
            sets = 0;
            for (int one = 0; one < town.things; one++) {
                if ((stock >> one & 1) != 0) {
                    addSet(town, thief, one, NONE);
                    for (int other = 0; other < one; other++) {
                        if ((stock >> other & 1) != 0) {
                            addSet(town, thief, one, other);
                        }
                    }
                }
            }
        }

        private void addSet(City town, int thief, int one, int other) {
            if (sets >= SETS_MOST) {
                return;
            }
            high[sets] = one;
            low[sets] = other;
            setWeight[sets] = town.weight[one];
            setValue[sets] = town.valueTo(HOUSES_MOST + thief, one);
            if (other != NONE) {
                setWeight[sets] += town.weight[other];
                setValue[sets] += town.valueTo(HOUSES_MOST + thief, other);
            }
            sets++;
        }

        void gather(City town, State state, int thief) {
            count = 0;
            if ((state.jail >> thief & 1) != 0) {
                return;
            }
            splitStock(town, state, thief);
            int room = town.sack[thief] - town.weightOfSet(state.held[HOUSES_MOST + thief]);
            for (int at = 0; at < town.houses; at++) {
                for (int one = 0; one < town.things && !town.isSeen(at, state.hour); one++) {
                    if ((state.held[at] >> one & 1) != 0) {
                        gatherFor(town, state.hour, thief, at, one, room);
                    }
                }
            }
        }

        private void gatherFor(City town, int hour, int thief, int at, int one, int room) {
            for (int i = 0; i < sets; i++) {
                int moved = low[i] == NONE ? 2 : 3;
                if (town.weight[one] - setWeight[i] <= room
                        && town.minutesOf(thief, at, moved) <= MINUTES_MOST
                        && town.isLawfulFor(at, one, high[i], low[i], hour, town.skill[thief])) {
                    addSwap(town, thief, at, one, i);
                }
            }
        }

        private void addSwap(City town, int thief, int at, int one, int i) {
            if (count >= SWAPS_MOST) {
                return;
            }
            house[count] = at;
            thing[count] = one;
            left[count] = low[i] == NONE ? 1 << high[i] : 1 << high[i] | 1 << low[i];
            gain[count] = town.valueTo(HOUSES_MOST + thief, one) - setValue[i];
            count++;
        }

        /** The place of BEST in the list. */
        int pick() {
            int picked = NONE;
            for (int i = 0; i < count; i++) {
                if (picked == NONE || gain[i] > gain[picked]) {
                    picked = i;
                }
            }
            return picked;
        }
    }

    /** All THIEVES, HOUR by HOUR. */
    private static final class Rounds {
        static final int LIE_MOST = 20;

        final Swaps list = new Swaps();
        final State scene = new State();
        int lieSum = 0;
        int lieThing = NONE;
        int lieWorth = NONE;

        /** Ends behind as many HOURS without a move as are enough: at which HOUR, or NONE. */
        int run(City town, State now, int n, int enough) {
            scene.copy(now);
            int still = 0;
            for (int hour = 1; hour <= n; hour++) {
                still++;
                for (int thief = 0; thief < town.thieves; thief++) {
                    list.gather(town, scene, thief);
                    int i = list.pick();
                    if (i != NONE && list.gain[i] > 0) {
                        scene.exchange(thief, list.house[i], 1 << list.thing[i], list.left[i]);
                        still = 0;
                    }
                }
                scene.passHour(town.hours);
                if (still >= enough) {
                    return hour;
                }
            }
            return NONE;
        }

        void findLie(City town, State now, int house, int n) {
            lieThing = NONE;
            lieWorth = NONE;
            run(town, now, n, NEVER);
            lieSum = town.valueOfSet(house, scene.held[house]);
            for (int thing = 0; thing < town.things; thing++) {
                for (int worth = 0; worth <= LIE_MOST; worth++) {
                    town.say(house, thing, worth);
                    run(town, now, n, NEVER);
                    int then = town.valueOfSet(house, scene.held[house]);
                    if (then > lieSum) {
                        lieSum = then;
                        lieThing = thing;
                        lieWorth = worth;
                    }
                }
                town.sayTruth(house, thing);
            }
        }
    }

    /** TOUR: all states of THINGS behind an HOUR, then those behind the next. */
    private static final class Search {
        static final int STATES_MOST = 2000;
        static final int TABLE = 4096;
        static final int HOURS_MOST = 9;
        static final int MASK = 1023;

        final Swaps list = new Swaps();
        final State scene = new State();
        /** What the HOUSES have, ten bits each: the rest of what moves, he has. */
        final long[] keys = new long[STATES_MOST];
        final int[] from = new int[STATES_MOST];
        /** Places in keys by a hash; what is ahead of the layer counts as empty. */
        final int[] table = new int[TABLE];
        int count = 0;
        int layer = 0;
        int moving = 0;
        int goal = NONE;

        int run(City town, State now, int thief, int thing) {
            begin(now, thief);
            int first = 0;
            for (int hours = 0; hours <= HOURS_MOST; hours++) {
                goal = firstWith(first, thing);
                if (goal != NONE) {
                    return hours;
                }
                layer = count;
                if (hours < HOURS_MOST && !goOn(town, thief, first)) {
                    return CANT;
                }
                first = layer;
                scene.passHour(town.hours);
            }
            return NONE;
        }

        private void begin(State now, int thief) {
            scene.copy(now);
            Arrays.fill(table, NONE);
            count = 0;
            layer = 0;
            moving = now.held[HOUSES_MOST + thief];
            long key = 0;
            for (int house = 0; house < HOUSES_MOST; house++) {
                moving |= now.held[house];
                key |= (long) now.held[house] << THINGS_MOST * house;
            }
            come(key, NONE);
        }

        /** The first state from there on in which he has it. */
        private int firstWith(int first, int thing) {
            if ((moving >> thing & 1) == 0) {
                return NONE;
            }
            for (int i = first; i < count; i++) {
                if ((inHouses(keys[i]) >> thing & 1) == 0) {
                    return i;
                }
            }
            return NONE;
        }

        private static int inHouses(long key) {
            int set = 0;
            for (int house = 0; house < HOUSES_MOST; house++) {
                set |= (int) (key >> THINGS_MOST * house) & MASK;
            }
            return set;
        }

        /** False if SPENT. To wait is tried last, so that the first way to a state is kept. */
        private boolean goOn(City town, int thief, int first) {
            for (int i = first; i < layer; i++) {
                long key = keys[i];
                setScene(key, thief);
                list.gather(town, scene, thief);
                for (int j = 0; j < list.count; j++) {
                    long moved = 1L << list.thing[j] | list.left[j];
                    if (!come(key ^ moved << THINGS_MOST * list.house[j], i)) {
                        return false;
                    }
                }
                if (!come(key, i)) {
                    return false;
                }
            }
            return true;
        }

        private void setScene(long key, int thief) {
            for (int house = 0; house < HOUSES_MOST; house++) {
                scene.held[house] = (int) (key >> THINGS_MOST * house) & MASK;
            }
            scene.held[HOUSES_MOST + thief] = moving & ~inHouses(key);
        }

        private boolean come(long key, int parent) {
            int slot = (int) (key ^ key >>> 13 ^ key >>> 27 ^ key >>> 41) & TABLE - 1;
            for (int tries = 0; tries < TABLE; tries++) {
                int there = table[slot];
                if (there < layer || there >= count) {
                    break;
                }
                if (keys[there] == key) {
                    return true;
                }
                slot = slot + 1 & TABLE - 1;
            }
            if (count >= STATES_MOST) {
                return false;
            }
            table[slot] = count;
            keys[count] = key;
            from[count] = parent;
            count++;
            return true;
        }

        /** Three numbers for each HOUR, from the last one back to the first. */
        int layPath(int hours, int[] row) {
            int state = goal;
            for (int hour = hours - 1; hour >= 0; hour--) {
                if (state < 0 || state >= count || 3 * hour + 2 >= row.length) {
                    return 0;
                }
                int parent = from[state];
                if (parent < 0) {
                    return 0;
                }
                layStep(keys[parent], keys[state], 3 * hour, row);
                state = parent;
            }
            return 3 * hours;
        }

        private static void layStep(long before, long after, int at, int[] row) {
            row[at] = NONE;
            row[at + 1] = NONE;
            row[at + 2] = 0;
            for (int house = 0; house < HOUSES_MOST; house++) {
                int had = (int) (before >> THINGS_MOST * house) & MASK;
                int has = (int) (after >> THINGS_MOST * house) & MASK;
                if (had != has) {
                    row[at] = house;
                    row[at + 1] = Integer.numberOfTrailingZeros(had & ~has);
                    row[at + 2] = has & ~had;
                }
            }
        }
    }

    /** What was LAWFUL or not, as TOLD, and what follows for WORTHS. */
    private static final class Reports {
        static final int REPORTS_MOST = 30;
        static final int WORTHS = 100;

        final int[] house = new int[REPORTS_MOST];
        final int[] taken = new int[REPORTS_MOST];
        final int[] left = new int[REPORTS_MOST];
        final int[] hour = new int[REPORTS_MOST];
        final boolean[] lawful = new boolean[REPORTS_MOST];
        final int[] toldAt = new int[REPORTS_MOST];
        final int[] untoldAt = new int[REPORTS_MOST];
        int count = 0;
        final boolean[] fits = new boolean[WORTHS];
        int fitting = 0;
        int least = NONE;
        int most = NONE;
        int askTaken = NONE;
        int askLeft = NONE;
        int askMost = NONE;

        int add(int at, int one, int other, int when, boolean allowed, int time) {
            if (count >= REPORTS_MOST) {
                return NONE;
            }
            house[count] = at;
            taken[count] = one;
            left[count] = other;
            hour[count] = when;
            lawful[count] = allowed;
            toldAt[count] = time;
            untoldAt[count] = NONE;
            count++;
            return count - 1;
        }

        boolean takeBack(int number, int time) {
            if (number < 0 || number >= count || untoldAt[number] != NONE) {
                return false;
            }
            untoldAt[number] = time;
            return true;
        }

        void fit(City town, int at, int thing, int k) {
            fitting = 0;
            least = NONE;
            most = NONE;
            for (int worth = 0; worth < WORTHS; worth++) {
                town.say(at, thing, worth);
                fits[worth] = allAreSo(town, at, k);
                if (fits[worth]) {
                    fitting++;
                    most = worth;
                    if (least == NONE) {
                        least = worth;
                    }
                }
            }
            town.sayTruth(at, thing);
        }

        private boolean allAreSo(City town, int at, int k) {
            for (int i = 0; i < count; i++) {
                if (house[i] == at && isKnown(i, k)
                        && town.isLawfulFor(at, taken[i], left[i], NONE, hour[i], 0) != lawful[i]) {
                    return false;
                }
            }
            return true;
        }

        private boolean isKnown(int i, int k) {
            return toldAt[i] <= k && (untoldAt[i] == NONE || untoldAt[i] > k);
        }

        void findQuestion(City town, int at, int thing) {
            askTaken = NONE;
            for (int one = 0; one < town.things; one++) {
                for (int other = 0; other < town.things; other++) {
                    if (one == other) {
                        continue;
                    }
                    int stay = mostLeft(town, at, thing, one, other);
                    if (askTaken == NONE || stay < askMost) {
                        askTaken = one;
                        askLeft = other;
                        askMost = stay;
                    }
                }
            }
        }

        private int mostLeft(City town, int at, int thing, int one, int other) {
            if (one != thing && other != thing) {
                // its WORTH does not count there, so one of the two answers leaves all
                return fitting;
            }
            int allowed = 0;
            for (int worth = 0; worth < WORTHS; worth++) {
                if (fits[worth]) {
                    town.say(at, thing, worth);
                    allowed += town.isLawfulFor(at, one, other, NONE, 0, 0) ? 1 : 0;
                }
            }
            town.sayTruth(at, thing);
            return Math.max(allowed, fitting - allowed);
        }
    }
}
