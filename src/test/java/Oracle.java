import java.util.ArrayDeque;
import java.util.ArrayList;
import java.util.Arrays;
import java.util.Deque;
import java.util.HashMap;
import java.util.HashSet;
import java.util.LinkedHashMap;
import java.util.List;
import java.util.Map;
import java.util.Set;
import java.util.TreeSet;

/**
 * The document once more, written plainly and slowly with the Java library:
 * OracleTest holds the class against it.
 */
final class Oracle {
    static final int NONE = -1;
    static final int GAP = -1000000;
    static final Set<String> OWN_WORDS = new HashSet<>(Arrays.asList("kind", "thing", "of", "weight", "worth",
            "house", "lock", "watch", "has", "thief", "sack", "skill", "dear", "to", "law", "night", "or", "and",
            "not", "taken", "left", "took", "gave", "alike", "hour"));

    static final class Fault extends RuntimeException {
        private static final long serialVersionUID = 1;
        final int sort;
        final int place;

        Fault(int sort, int place) {
            super("FAULT " + sort + " at " + place, null, false, false);
            this.sort = sort;
            this.place = place;
        }
    }

    /** What a formula is asked about. */
    record Deed(int taken, int left, int took, int gave, int alike, int hour, int skill) {
    }

    interface Formula {
        int of(Deed deed);
    }

    record Item(String name, int kind, int weight, int worth) {
    }

    record House(String name, int lock, Set<Integer> watch) {
    }

    record Thief(String name, int sack, int skill) {
    }

    /** Holders are named as in places: H0.., T0... */
    static final class Told {
        int hours = 6;
        final List<String> kinds = new ArrayList<>();
        final List<Item> things = new ArrayList<>();
        final List<House> houses = new ArrayList<>();
        final List<Thief> thieves = new ArrayList<>();
        final Map<String, String> holders = new HashMap<>();
        final Map<String, Integer> dear = new HashMap<>();
        final Map<Integer, String> at = new HashMap<>();
        Formula law = null;
        int units = 0;
    }

    static final class World {
        final List<String> places = new ArrayList<>();
        int night = 0;
        int hour = 0;
        final Set<Integer> jail = new TreeSet<>();
        final List<Integer> crimes = new ArrayList<>(Arrays.asList(0, 0, 0, 0));

        World copy() {
            World w = new World();
            w.places.addAll(places);
            w.night = night;
            w.hour = hour;
            w.jail.addAll(jail);
            for (int i = 0; i < 4; i++) {
                w.crimes.set(i, crimes.get(i));
            }
            return w;
        }
    }

    record Swap(int house, int thing, int left, int gain) {
    }

    static final class Report {
        int house;
        int taken;
        int left;
        int hour;
        boolean lawful;
        int told;
        int untold = Integer.MAX_VALUE;
        boolean gone = false;
    }

    // ---- reading

    static final class Parser {
        final String text;
        int at = 0;
        final Told told = new Told();
        int lines = 0;

        Parser(String text) {
            this.text = text;
        }

        static boolean letter(char c) {
            return c >= 'a' && c <= 'z';
        }

        static boolean digit(char c) {
            return c >= '0' && c <= '9';
        }

        void blanks() {
            while (at < text.length() && (text.charAt(at) == ' ' || text.charAt(at) == '\n')) {
                at++;
            }
        }

        /** The TOKEN here, "" at the end; a fault if there is none. */
        String peek() {
            blanks();
            if (at == text.length()) {
                return "";
            }
            int j = at;
            char c = text.charAt(at);
            if (letter(c)) {
                while (j < text.length() && letter(text.charAt(j))) {
                    j++;
                }
                if (j - at > 8) {
                    throw new Fault(1, at);
                }
                return text.substring(at, j);
            }
            if (digit(c)) {
                while (j < text.length() && digit(text.charAt(j))) {
                    j++;
                }
                if (j - at > 4 || j < text.length() && letter(text.charAt(j))) {
                    throw new Fault(1, at);
                }
                return text.substring(at, j);
            }
            if (";()<>=+-*/%".indexOf(c) < 0) {
                throw new Fault(1, at);
            }
            return String.valueOf(c);
        }

        void skip() {
            at += peek().length();
        }

        Fault no(int sort) {
            blanks();
            return new Fault(sort, at);
        }

        void expect(String token) {
            if (!peek().equals(token)) {
                throw no(2);
            }
            skip();
        }

        String name() {
            String t = peek();
            if (t.isEmpty() || !letter(t.charAt(0)) || OWN_WORDS.contains(t)) {
                throw no(2);
            }
            return t;
        }

        int number(int least, int most) {
            String t = peek();
            if (t.isEmpty() || !digit(t.charAt(0))) {
                throw no(2);
            }
            int n = Integer.parseInt(t);
            if (n < least || n > most) {
                throw no(4);
            }
            return n;
        }

        int numberOf(String word, int most) {
            expect(word);
            int n = number(0, most);
            skip();
            return n;
        }

        int thingHere() {
            String n = name();
            for (int i = 0; i < told.things.size(); i++) {
                if (told.things.get(i).name().equals(n)) {
                    return i;
                }
            }
            throw no(5);
        }

        Told read() {
            while (!peek().isEmpty()) {
                line();
                expect(";");
                lines++;
            }
            return told;
        }

        void line() {
            switch (peek()) {
                case "night" -> night();
                case "kind" -> kind();
                case "thing" -> thing();
                case "house" -> house();
                case "thief" -> thief();
                case "dear" -> dear();
                case "law" -> law();
                default -> throw no(2);
            }
        }

        void night() {
            if (lines > 0) {
                throw no(2);
            }
            skip();
            told.hours = number(1, 9);
            skip();
        }

        void kind() {
            if (told.kinds.size() == 6) {
                throw no(2);
            }
            skip();
            String n = name();
            if (told.kinds.contains(n)) {
                throw no(3);
            }
            told.kinds.add(n);
            skip();
        }

        void thing() {
            if (told.things.size() == 10) {
                throw no(2);
            }
            skip();
            String n = name();
            for (Item item : told.things) {
                if (item.name().equals(n)) {
                    throw no(3);
                }
            }
            skip();
            expect("of");
            int kind = told.kinds.indexOf(name());
            if (kind < 0) {
                throw no(5);
            }
            skip();
            int weight = numberOf("weight", 99);
            int worth = numberOf("worth", 99);
            told.things.add(new Item(n, kind, weight, worth));
        }

        String holder(String id) {
            skip();
            String n = name();
            if (told.holders.containsKey(n)) {
                throw no(3);
            }
            told.holders.put(n, id);
            skip();
            return n;
        }

        void house() {
            if (told.houses.size() == 5) {
                throw no(2);
            }
            String id = "H" + told.houses.size();
            String n = holder(id);
            int lock = numberOf("lock", 9);
            Set<Integer> watch = new TreeSet<>();
            while (peek().equals("watch")) {
                skip();
                if (!watch.add(number(0, told.hours - 1))) {
                    throw no(3);
                }
                skip();
            }
            told.houses.add(new House(n, lock, watch));
            stock(id);
        }

        void thief() {
            if (told.thieves.size() == 4) {
                throw no(2);
            }
            String id = "T" + told.thieves.size();
            String n = holder(id);
            int sack = numberOf("sack", 999);
            int skill = numberOf("skill", 9);
            told.thieves.add(new Thief(n, sack, skill));
            stock(id);
        }

        void stock(String id) {
            while (peek().equals("has")) {
                skip();
                int thing = thingHere();
                if (told.at.containsKey(thing)) {
                    throw no(3);
                }
                told.at.put(thing, id);
                skip();
            }
        }

        void dear() {
            if (told.dear.size() == 20) {
                throw no(2);
            }
            skip();
            int thing = thingHere();
            skip();
            expect("to");
            String id = told.holders.get(name());
            if (id == null) {
                throw no(5);
            }
            if (told.dear.containsKey(id + "/" + thing)) {
                throw no(3);
            }
            skip();
            told.dear.put(id + "/" + thing, number(0, 99));
            skip();
        }

        void law() {
            if (told.law != null) {
                throw no(2);
            }
            skip();
            told.law = either(0);
        }

        Formula either(int within) {
            Formula f = both(within);
            while (peek().equals("or")) {
                skip();
                Formula a = f;
                Formula b = both(within);
                f = d -> a.of(d) != 0 || b.of(d) != 0 ? 1 : 0;
            }
            return f;
        }

        Formula both(int within) {
            Formula f = one(within);
            while (peek().equals("and")) {
                skip();
                Formula a = f;
                Formula b = one(within);
                f = d -> a.of(d) != 0 && b.of(d) != 0 ? 1 : 0;
            }
            return f;
        }

        Formula one(int within) {
            if (peek().equals("not")) {
                if (within == 7) {
                    throw no(2);
                }
                skip();
                Formula a = one(within + 1);
                return d -> a.of(d) == 0 ? 1 : 0;
            }
            Formula a = total(within);
            String sign = peek();
            if (!sign.equals("<") && !sign.equals(">") && !sign.equals("=")) {
                return a;
            }
            skip();
            Formula b = total(within);
            return switch (sign) {
                case "<" -> d -> a.of(d) < b.of(d) ? 1 : 0;
                case ">" -> d -> a.of(d) > b.of(d) ? 1 : 0;
                default -> d -> a.of(d) == b.of(d) ? 1 : 0;
            };
        }

        Formula total(int within) {
            Formula f = term(within);
            while (peek().equals("+") || peek().equals("-")) {
                boolean plus = peek().equals("+");
                skip();
                Formula a = f;
                Formula b = term(within);
                f = plus ? d -> a.of(d) + b.of(d) : d -> a.of(d) - b.of(d);
            }
            return f;
        }

        Formula term(int within) {
            Formula f = unit(within);
            while (peek().equals("*") || peek().equals("/") || peek().equals("%")) {
                String sign = peek();
                skip();
                Formula a = f;
                Formula b = unit(within);
                f = switch (sign) {
                    case "*" -> d -> a.of(d) * b.of(d);
                    case "/" -> d -> b.of(d) == 0 ? 0 : a.of(d) / b.of(d);
                    default -> d -> b.of(d) == 0 ? 0 : a.of(d) % b.of(d);
                };
            }
            return f;
        }

        Formula unit(int within) {
            String t = peek();
            boolean number = !t.isEmpty() && digit(t.charAt(0));
            Formula f = switch (t) {
                case "taken" -> Deed::taken;
                case "left" -> Deed::left;
                case "took" -> Deed::took;
                case "gave" -> Deed::gave;
                case "alike" -> Deed::alike;
                case "hour" -> Deed::hour;
                case "skill" -> Deed::skill;
                default -> null;
            };
            if (f == null && !number && !t.equals("(") || told.units == 30 || t.equals("(") && within == 7) {
                throw no(2);
            }
            told.units++;
            skip();
            if (number) {
                int n = Integer.parseInt(t);
                return d -> n;
            }
            if (f == null) {
                f = either(within + 1);
                expect(")");
            }
            return f;
        }
    }

    // ---- state

    private final StringBuilder tape = new StringBuilder();
    private int faultSort = 0;
    private int faultPlace = NONE;
    private Told told = new Told();
    private World now = new World();
    private final Deque<World> undone = new ArrayDeque<>();
    private final Deque<World> done = new ArrayDeque<>();
    private final World[] boxes = new World[3];
    private List<Integer> laid = new ArrayList<>();
    private final List<Report> reports = new ArrayList<>();
    private int time = 0;
    private String liar = "";
    private int lieWorth = 0;

    int feed(int a, int b, int c, int d, int e) {
        if (tape.length() > 1680) {
            return NONE;
        }
        for (int n : new int[] {a, b, c, d, e}) {
            tape.append((char) (n >>> 24)).append((char) (n >>> 16 & 255));
            tape.append((char) (n >>> 8 & 255)).append((char) (n & 255));
        }
        return tape.length();
    }

    int end(int n) {
        if (n < 0 || n > tape.length()) {
            return NONE;
        }
        tape.setLength(n);
        return n;
    }

    int city() {
        String text = tape.toString();
        tape.setLength(0);
        faultSort = 0;
        faultPlace = NONE;
        try {
            told = new Parser(text).read();
        } catch (Fault f) {
            faultSort = f.sort;
            faultPlace = f.place;
            return NONE;
        }
        now = new World();
        for (int i = 0; i < told.things.size(); i++) {
            now.places.add(told.at.getOrDefault(i, ""));
        }
        done.clear();
        undone.clear();
        reports.clear();
        laid = new ArrayList<>();
        Arrays.fill(boxes, null);
        return told.things.size();
    }

    int fault(int what) {
        return what == 0 ? faultSort : what == 1 ? faultPlace : NONE;
    }

    boolean isThing(int t) {
        return t >= 0 && t < told.things.size();
    }

    boolean isHouse(int h) {
        return h >= 0 && h < told.houses.size();
    }

    boolean isThief(int t) {
        return t >= 0 && t < told.thieves.size();
    }

    boolean isHolder(int h, boolean thief) {
        return thief ? isThief(h) : isHouse(h);
    }

    static String id(int holder, boolean thief) {
        return (thief ? "T" : "H") + holder;
    }

    int value(String holder, int thing) {
        return told.dear.getOrDefault(holder + "/" + thing, told.things.get(thing).worth());
    }

    static boolean in(int set, int thing) {
        return (set & (1 << thing)) != 0;
    }

    int setAt(World w, String holder) {
        int set = 0;
        for (int i = 0; i < w.places.size(); i++) {
            if (w.places.get(i).equals(holder)) {
                set += 1 << i;
            }
        }
        return set;
    }

    int sumAt(World w, String holder) {
        int sum = 0;
        for (int i = 0; i < w.places.size(); i++) {
            if (w.places.get(i).equals(holder)) {
                sum += value(holder, i);
            }
        }
        return sum;
    }

    int thing(int t, int what) {
        if (!isThing(t) || what < 0 || what > 4) {
            return -2;
        }
        String p = now.places.get(t);
        return switch (what) {
            case 0 -> told.things.get(t).kind();
            case 1 -> told.things.get(t).weight();
            case 2 -> told.things.get(t).worth();
            case 3 -> p.startsWith("H") ? p.charAt(1) - '0' : NONE;
            default -> p.startsWith("T") ? p.charAt(1) - '0' : NONE;
        };
    }

    int worth(int t, int holder, boolean thief) {
        return isThing(t) && isHolder(holder, thief) ? value(id(holder, thief), t) : NONE;
    }

    int has(int holder, boolean thief) {
        return isHolder(holder, thief) ? setAt(now, id(holder, thief)) : NONE;
    }

    int sum(int holder, boolean thief) {
        return isHolder(holder, thief) ? sumAt(now, id(holder, thief)) : NONE;
    }

    int weightOf(int set) {
        int sum = 0;
        for (int i = 0; i < told.things.size(); i++) {
            sum += in(set, i) ? told.things.get(i).weight() : 0;
        }
        return sum;
    }

    int thief(int t, int what) {
        if (!isThief(t)) {
            return NONE;
        }
        return switch (what) {
            case 0 -> now.jail.contains(t) ? 1 : 0;
            case 1 -> now.crimes.get(t);
            case 2 -> weightOf(setAt(now, "T" + t));
            default -> NONE;
        };
    }

    int minutes(int thief, int house, int n) {
        if (!isThief(thief) || !isHouse(house) || n < 1 || n > 6) {
            return NONE;
        }
        int open = told.houses.get(house).lock() - told.thieves.get(thief).skill();
        return (open < 1 ? 1 : open) + 2 * n;
    }

    boolean isTheft(World w, int thief, int house, int taken, int left) {
        if (!isThief(thief) || !isHouse(house)) {
            return false;
        }
        int there = setAt(w, "H" + house);
        int stock = setAt(w, "T" + thief);
        int took = Integer.bitCount(taken);
        int gave = Integer.bitCount(left);
        return took >= 1 && took <= 3 && gave <= 3 && (taken | there) == there && (left | stock) == stock;
    }

    boolean can(World w, int thief, int house, int taken, int left) {
        int weight = weightOf(setAt(w, "T" + thief)) + weightOf(taken) - weightOf(left);
        int things = Integer.bitCount(taken) + Integer.bitCount(left);
        return !w.jail.contains(thief) && weight <= told.thieves.get(thief).sack()
                && minutes(thief, house, things) <= 15;
    }

    boolean seen(int house, int hour) {
        return told.houses.get(house).watch().contains(hour);
    }

    int counted(int house, int thing) {
        return liar.equals("H" + house + "/" + thing) ? lieWorth : value("H" + house, thing);
    }

    boolean lawful(int house, int taken, int left, int hour, int skill) {
        int a = 0;
        int b = 0;
        int alike = 0;
        Set<Integer> kinds = new HashSet<>();
        for (int i = 0; i < told.things.size(); i++) {
            if (in(taken, i)) {
                a += counted(house, i);
                kinds.add(told.things.get(i).kind());
            }
        }
        for (int i = 0; i < told.things.size(); i++) {
            if (in(left, i)) {
                b += counted(house, i);
                alike += kinds.contains(told.things.get(i).kind()) ? 1 : 0;
            }
        }
        if (told.law == null) {
            return b > a;
        }
        return told.law.of(new Deed(a, b, Integer.bitCount(taken), Integer.bitCount(left), alike, hour, skill)) != 0;
    }

    /** For reports by chance that are mostly true. */
    boolean lawfulAsTold(int house, int taken, int left, int hour) {
        return isHouse(house) && isThing(taken) && isThing(left) && lawful(house, 1 << taken, 1 << left, hour, 0);
    }

    int skillOf(int thief) {
        return told.thieves.get(thief).skill();
    }

    int may(int thief, int house, int taken, int left, int what) {
        if (!isTheft(now, thief, house, taken, left)) {
            return NONE;
        }
        return switch (what) {
            case 0 -> can(now, thief, house, taken, left) ? 1 : 0;
            case 1 -> seen(house, now.hour) ? 1 : 0;
            case 2 -> lawful(house, taken, left, now.hour, skillOf(thief)) ? 1 : 0;
            default -> NONE;
        };
    }

    void move(World w, int thief, int house, int taken, int left) {
        for (int i = 0; i < w.places.size(); i++) {
            if (in(taken, i)) {
                w.places.set(i, "T" + thief);
            } else if (in(left, i)) {
                w.places.set(i, "H" + house);
            }
        }
    }

    void hour(World w) {
        w.hour++;
        if (w.hour == told.hours) {
            w.hour = 0;
            w.night++;
            w.jail.clear();
        }
    }

    void act() {
        done.addLast(now.copy());
        if (done.size() > 40) {
            done.removeFirst();
        }
        undone.clear();
    }

    int theft(int thief, int house, int taken, int left) {
        if (now.night == 200 || !isTheft(now, thief, house, taken, left) || !can(now, thief, house, taken, left)) {
            return NONE;
        }
        act();
        int answer;
        if (seen(house, now.hour)) {
            now.jail.add(thief);
            answer = 2;
        } else {
            answer = lawful(house, taken, left, now.hour, skillOf(thief)) ? 1 : 0;
            move(now, thief, house, taken, left);
            if (answer == 0) {
                now.crimes.set(thief, now.crimes.get(thief) + 1);
            }
        }
        hour(now);
        return answer;
    }

    int waits() {
        if (now.night == 200) {
            return NONE;
        }
        act();
        hour(now);
        return now.hour;
    }

    boolean gift(int thing, int holder, boolean thief) {
        if (!isThing(thing) || !isHolder(holder, thief) || now.places.get(thing).equals(id(holder, thief))) {
            return false;
        }
        act();
        now.places.set(thing, id(holder, thief));
        return true;
    }

    boolean undo() {
        if (done.isEmpty()) {
            return false;
        }
        undone.addLast(now);
        now = done.removeLast();
        return true;
    }

    boolean redo() {
        if (undone.isEmpty()) {
            return false;
        }
        done.addLast(now);
        now = undone.removeLast();
        return true;
    }

    List<Swap> list(World w, int thief) {
        List<Swap> swaps = new ArrayList<>();
        int stock = setAt(w, "T" + thief);
        for (int house = 0; house < told.houses.size(); house++) {
            for (int thing = 0; thing < told.things.size(); thing++) {
                boolean there = w.places.get(thing).equals("H" + house);
                for (int left = 1; there && left <= stock; left++) {
                    boolean his = (left & stock) == left && Integer.bitCount(left) <= 2;
                    if (his && isSwap(w, thief, house, 1 << thing, left)) {
                        World then = w.copy();
                        move(then, thief, house, 1 << thing, left);
                        swaps.add(new Swap(house, thing, left, sumAt(then, "T" + thief) - sumAt(w, "T" + thief)));
                    }
                }
            }
        }
        return swaps;
    }

    boolean isSwap(World w, int thief, int house, int taken, int left) {
        return isTheft(w, thief, house, taken, left) && can(w, thief, house, taken, left)
                && !seen(house, w.hour) && lawful(house, taken, left, w.hour, skillOf(thief));
    }

    Swap bestOf(World w, int thief) {
        Swap best = null;
        for (Swap s : list(w, thief)) {
            if (best == null || s.gain() > best.gain()) {
                best = s;
            }
        }
        return best;
    }

    int swaps(int thief) {
        return isThief(thief) ? list(now, thief).size() : NONE;
    }

    int best(int thief) {
        laid = new ArrayList<>();
        Swap s = isThief(thief) ? bestOf(now, thief) : null;
        if (s == null) {
            return GAP;
        }
        laid = new ArrayList<>(Arrays.asList(s.house(), s.thing(), s.left()));
        return s.gain();
    }

    int tour(int thief, int thing) {
        laid = new ArrayList<>();
        if (!isThief(thief) || !isThing(thing)) {
            return NONE;
        }
        Map<List<String>, List<Integer>> layer = new LinkedHashMap<>();
        layer.put(now.places, new ArrayList<>());
        int come = 1;
        World w = now.copy();
        for (int hours = 0; hours <= 9; hours++) {
            for (Map.Entry<List<String>, List<Integer>> e : layer.entrySet()) {
                if (e.getKey().get(thing).equals("T" + thief)) {
                    laid = e.getValue();
                    return hours;
                }
            }
            if (hours == 9) {
                return NONE;
            }
            Map<List<String>, List<Integer>> next = new LinkedHashMap<>();
            for (Map.Entry<List<String>, List<Integer>> e : layer.entrySet()) {
                w.places.clear();
                w.places.addAll(e.getKey());
                for (Swap s : list(w, thief)) {
                    World then = w.copy();
                    move(then, thief, s.house(), 1 << s.thing(), s.left());
                    next.putIfAbsent(then.places, longer(e.getValue(), s.house(), s.thing(), s.left()));
                }
                next.putIfAbsent(e.getKey(), longer(e.getValue(), NONE, NONE, 0));
                if (come + next.size() > 2000) {
                    return -2;
                }
            }
            come += next.size();
            layer = next;
            hour(w);
        }
        return NONE;
    }

    static List<Integer> longer(List<Integer> list, int... more) {
        List<Integer> all = new ArrayList<>(list);
        for (int m : more) {
            all.add(m);
        }
        return all;
    }

    /** Whether something was moved in that HOUR. */
    boolean round(World w) {
        boolean moved = false;
        for (int t = 0; t < told.thieves.size(); t++) {
            Swap s = bestOf(w, t);
            if (s != null && s.gain() > 0) {
                move(w, t, s.house(), 1 << s.thing(), s.left());
                moved = true;
            }
        }
        hour(w);
        return moved;
    }

    World behind(int n) {
        World w = now.copy();
        for (int i = 0; i < n; i++) {
            round(w);
        }
        return w;
    }

    int drift(int thing, int n) {
        if (!isThing(thing) || n < 0 || n > 60) {
            return -2;
        }
        String p = behind(n).places.get(thing);
        return p.isEmpty() ? NONE : p.charAt(1) - '0' + (p.charAt(0) == 'T' ? 10 : 0);
    }

    int sums(int holder, boolean thief, int n) {
        return isHolder(holder, thief) && n >= 0 && n <= 60 ? sumAt(behind(n), id(holder, thief)) : NONE;
    }

    int rests() {
        World w = now.copy();
        int lastMove = 0;
        for (int h = 1; h <= 60; h++) {
            if (round(w)) {
                lastMove = h;
            }
            if (h - lastMove >= told.hours) {
                return h;
            }
        }
        return NONE;
    }

    int lie(int house, int n, int what) {
        if (!isHouse(house) || n < 1 || n > 4 || what < 0 || what > 2) {
            return -2;
        }
        int[] best = {sumAt(behind(n), "H" + house), NONE, NONE};
        for (int t = 0; t < told.things.size(); t++) {
            for (int w = 0; w <= 20; w++) {
                liar = "H" + house + "/" + t;
                lieWorth = w;
                int sum = sumAt(behind(n), "H" + house);
                if (sum > best[0]) {
                    best = new int[] {sum, t, w};
                }
            }
        }
        liar = "";
        return best[what];
    }

    int unbettered(int house) {
        if (!isHouse(house)) {
            return NONE;
        }
        int set = setAt(now, "H" + house);
        int open = set;
        for (int t = 0; t < told.thieves.size(); t++) {
            int stock = setAt(now, "T" + t);
            for (int left = 1; left <= stock; left++) {
                for (int i = 0; i < 10; i++) {
                    if (in(set, i) && (left & stock) == left && Integer.bitCount(left) < 3
                            && lawful(house, 1 << i, left, now.hour, skillOf(t))) {
                        open &= ~(1 << i);
                    }
                }
            }
        }
        return open;
    }

    int loopholes() {
        laid = new ArrayList<>();
        int count = 0;
        for (int t = 0; t < told.thieves.size(); t++) {
            for (int h = 0; h < told.houses.size(); h++) {
                for (int a = 0; a < told.things.size(); a++) {
                    for (int b = 0; b < told.things.size(); b++) {
                        if (isSwap(now, t, h, 1 << a, 1 << b)) {
                            World then = now.copy();
                            move(then, t, h, 1 << a, 1 << b);
                            if (isSwap(then, t, h, 1 << b, 1 << a)) {
                                if (count == 0) {
                                    laid = new ArrayList<>(Arrays.asList(t, h, a, b));
                                }
                                count++;
                            }
                        }
                    }
                }
            }
        }
        return count;
    }

    int who(int box) {
        laid = new ArrayList<>();
        if (box < 0 || box > 2 || boxes[box] == null) {
            return NONE;
        }
        int count = 0;
        for (int t = 0; t < told.thieves.size(); t++) {
            for (int hour = 0; hour < told.hours; hour++) {
                World w = boxes[box].copy();
                w.jail.clear();
                w.hour = hour;
                for (Swap s : list(w, t)) {
                    World then = w.copy();
                    move(then, t, s.house(), 1 << s.thing(), s.left());
                    if (then.places.equals(now.places)) {
                        if (count == 0) {
                            laid = new ArrayList<>(Arrays.asList(t, hour, s.house(), s.thing(), s.left()));
                        }
                        count++;
                    }
                }
            }
        }
        return count;
    }

    int lies(int i) {
        return i >= 0 && i < laid.size() ? laid.get(i) : GAP;
    }

    int report(int house, int taken, int left, int hour, boolean lawful) {
        if (!isHouse(house) || !isThing(taken) || !isThing(left) || taken == left || hour < 0
                || hour >= told.hours || reports.size() == 30) {
            return NONE;
        }
        Report r = new Report();
        r.house = house;
        r.taken = taken;
        r.left = left;
        r.hour = hour;
        r.lawful = lawful;
        r.told = time;
        reports.add(r);
        return reports.size() - 1;
    }

    boolean untell(int report) {
        if (report < 0 || report >= reports.size() || reports.get(report).gone) {
            return false;
        }
        reports.get(report).gone = true;
        reports.get(report).untold = time;
        return true;
    }

    int later(int by) {
        if (by < 0 || by > 1000 || time + by > 100000) {
            return NONE;
        }
        time += by;
        return time;
    }

    List<Integer> spanOf(int house, int thing, int k) {
        List<Integer> span = new ArrayList<>();
        liar = "H" + house + "/" + thing;
        for (int w = 0; w <= 99; w++) {
            lieWorth = w;
            boolean all = true;
            for (Report r : reports) {
                boolean counts = r.told <= k && !(r.gone && r.untold <= k);
                if (counts && r.house == house) {
                    all &= lawful(house, 1 << r.taken, 1 << r.left, r.hour, 0) == r.lawful;
                }
            }
            if (all) {
                span.add(w);
            }
        }
        liar = "";
        return span;
    }

    int span(int house, int thing, int what, int k) {
        if (!isHouse(house) || !isThing(thing) || what < 0 || what > 2) {
            return -2;
        }
        List<Integer> span = spanOf(house, thing, k);
        if (what == 0) {
            return span.size();
        }
        return span.isEmpty() ? NONE : span.get(what == 1 ? 0 : span.size() - 1);
    }

    int ask(int house, int thing, int what, int k) {
        if (!isHouse(house) || !isThing(thing) || what < 0 || what > 1) {
            return -2;
        }
        List<Integer> span = spanOf(house, thing, k);
        if (span.isEmpty() || told.things.size() < 2) {
            return NONE;
        }
        int[] best = {NONE, 1000};
        liar = "H" + house + "/" + thing;
        for (int a = 0; a < told.things.size(); a++) {
            for (int b = 0; b < told.things.size(); b++) {
                int yes = 0;
                for (int w : span) {
                    lieWorth = w;
                    yes += a != b && lawful(house, 1 << a, 1 << b, 0, 0) ? 1 : 0;
                }
                int most = Math.max(yes, span.size() - yes);
                if (a != b && most < best[1]) {
                    best = new int[] {10 * a + b, most};
                }
            }
        }
        liar = "";
        return best[what];
    }

    int image(int box) {
        if (box < 0 || box > 2) {
            return NONE;
        }
        boxes[box] = now.copy();
        return now.night;
    }

    int back(int box) {
        if (box < 0 || box > 2 || boxes[box] == null) {
            return NONE;
        }
        now = boxes[box].copy();
        done.clear();
        undone.clear();
        return now.night;
    }

    int about(int what) {
        int jail = 0;
        for (int t : now.jail) {
            jail += 1 << t;
        }
        return switch (what) {
            case 0 -> told.things.size();
            case 1 -> told.houses.size();
            case 2 -> told.thieves.size();
            case 3 -> told.kinds.size();
            case 4 -> now.night;
            case 5 -> now.hour;
            case 6 -> told.hours;
            case 7 -> jail;
            case 8 -> now.crimes.stream().mapToInt(Integer::intValue).sum();
            case 9 -> done.size();
            case 10 -> undone.size();
            case 11 -> reports.size();
            case 12 -> time;
            case 13 -> tape.length();
            case 14 -> told.units;
            case 15 -> laid.size();
            default -> NONE;
        };
    }
}
