import java.util.ArrayDeque;
import java.util.ArrayList;
import java.util.Collections;
import java.util.Comparator;
import java.util.HashMap;
import java.util.HashSet;
import java.util.List;
import java.util.Map;
import java.util.Set;
import java.util.TreeSet;

/**
 * The document once more, written another way (lists, copies, brute force) and with the whole library: what
 * LeagueLevels answers is compared with what this answers.
 */
final class Oracle {
    static final Set<String> KEYWORDS = Set.of("level", "of", "down", "need", "club", "grade", "in");
    static final Map<String, List<List<Integer>>> PARTINGS = new HashMap<>();

    record Level(int divisions, int size, int down, int need) {
    }

    static final class Club {
        String name;
        int x;
        int y;
        int grade;
        int level = -1;
        int division = -1;
        boolean resigned;
        boolean refused;
        int deducted;

        Club copy() {
            Club c = new Club();
            c.name = name;
            c.x = x;
            c.y = y;
            c.grade = grade;
            c.level = level;
            c.division = division;
            c.resigned = resigned;
            c.refused = refused;
            c.deducted = deducted;
            return c;
        }
    }

    record Match(int home, int away, int goals, int against) {
    }

    static final class State {
        List<Level> levels = new ArrayList<>();
        List<Club> clubs = new ArrayList<>();
        List<Match> matches = new ArrayList<>();

        State copy() {
            State s = new State();
            s.levels.addAll(levels);
            for (Club c : clubs) {
                s.clubs.add(c.copy());
            }
            s.matches.addAll(matches);
            return s;
        }
    }

    /** Thrown where a text has its first fault. */
    static final class Faulty extends Exception {
        private static final long serialVersionUID = 1;
        final int number;
        final int place;

        Faulty(int number, int place) {
            super(null, null, false, false);
            this.number = number;
            this.place = place;
        }
    }

    record Token(String text, int place, char kind) {
        boolean name() {
            return kind == 'w' && text.length() <= 7 && !KEYWORDS.contains(text);
        }
    }

    String tape = "";
    State s = new State();
    ArrayDeque<State> past = new ArrayDeque<>();
    int season;
    int fault;
    int faultPlace = -1;
    String shown = "";

    // ---- texts

    List<Token> tokens() {
        List<Token> list = new ArrayList<>();
        int i = 0;
        while (i < tape.length()) {
            char c = tape.charAt(i);
            int j = i + 1;
            if (c == ' ' || c == '\n') {
                i = j;
                continue;
            }
            char kind = 's';
            if (c >= 'a' && c <= 'z') {
                kind = 'w';
                while (j < tape.length() && tape.charAt(j) >= 'a' && tape.charAt(j) <= 'z') {
                    j++;
                }
            } else if (c >= '0' && c <= '9') {
                kind = 'n';
                while (j < tape.length() && tape.charAt(j) >= '0' && tape.charAt(j) <= '9') {
                    j++;
                }
            }
            list.add(new Token(tape.substring(i, j), i, kind));
            i = j;
        }
        list.add(new Token("", tape.length(), 'e'));
        return list;
    }

    static Token word(List<Token> t, String want) throws Faulty {
        Token one = t.remove(0);
        if (!one.text.equals(want)) {
            throw new Faulty(1, one.place);
        }
        return one;
    }

    static int number(List<Token> t, int least, int most) throws Faulty {
        Token one = t.remove(0);
        if (one.kind != 'n' || one.text.length() > 3) {
            throw new Faulty(1, one.place);
        }
        int n = Integer.parseInt(one.text);
        if (n < least || n > most) {
            throw new Faulty(3, one.place);
        }
        return n;
    }

    State parsePyramid() throws Faulty {
        State out = new State();
        List<Token> t = tokens();
        while (t.get(0).kind != 'e') {
            Token first = t.remove(0);
            if (first.text.equals("level")) {
                if (out.levels.size() == 4) {
                    throw new Faulty(4, first.place);
                }
                int divisions = number(t, 1, 3);
                word(t, "of");
                int place = t.get(0).place;
                int size = number(t, 2, 6);
                if (divisions * size > 12) {
                    throw new Faulty(3, place);
                }
                word(t, "down");
                int down = number(t, 0, 6);
                word(t, "need");
                int need = number(t, 0, 9);
                word(t, ";");
                out.levels.add(new Level(divisions, size, down, need));
            } else if (first.text.equals("club")) {
                out.clubs.add(parseClub(t, out, first));
            } else {
                throw new Faulty(1, first.place);
            }
        }
        for (int l = 0; l < out.levels.size(); l++) {
            for (int d = 0; d < out.levels.get(l).divisions; d++) {
                if (in(out, l, d).size() != out.levels.get(l).size) {
                    throw new Faulty(5, t.get(0).place);
                }
            }
        }
        return out;
    }

    static Club parseClub(List<Token> t, State out, Token first) throws Faulty {
        if (out.clubs.size() == 30) {
            throw new Faulty(4, first.place);
        }
        Club c = new Club();
        Token name = t.remove(0);
        if (!name.name()) {
            throw new Faulty(1, name.place);
        }
        for (Club o : out.clubs) {
            if (o.name.equals(name.text)) {
                throw new Faulty(2, name.place);
            }
        }
        c.name = name.text;
        c.x = number(t, 0, 99);
        c.y = number(t, 0, 99);
        word(t, "grade");
        c.grade = number(t, 0, 9);
        if (t.get(0).text.equals("in")) {
            t.remove(0);
            c.level = number(t, 0, out.levels.size() - 1);
            int place = t.get(0).place;
            c.division = number(t, 0, out.levels.get(c.level).divisions - 1);
            if (in(out, c.level, c.division).size() == out.levels.get(c.level).size) {
                throw new Faulty(3, place);
            }
        }
        word(t, ";");
        return c;
    }

    List<Match> parseDay() throws Faulty {
        List<Match> list = new ArrayList<>();
        Set<Integer> told = new HashSet<>();
        for (Match m : s.matches) {
            told.add(m.home * 100 + m.away);
        }
        List<Token> t = tokens();
        while (t.get(0).kind != 'e') {
            int home = clubAt(t.remove(0));
            int goals = number(t, 0, 99);
            word(t, "-");
            int against = number(t, 0, 99);
            Token second = t.remove(0);
            int away = clubAt(second);
            Club a = s.clubs.get(home);
            Club b = s.clubs.get(away);
            if (home == away || a.level < 0 || a.level != b.level || a.division != b.division
                    || !told.add(home * 100 + away)) {
                throw new Faulty(4, second.place);
            }
            word(t, ";");
            list.add(new Match(home, away, goals, against));
        }
        return list;
    }

    int clubAt(Token t) throws Faulty {
        if (!t.name()) {
            throw new Faulty(1, t.place);
        }
        for (int i = 0; i < s.clubs.size(); i++) {
            if (s.clubs.get(i).name.equals(t.text)) {
                return i;
            }
        }
        throw new Faulty(2, t.place);
    }

    int feed(int... five) {
        if (tape.length() + 20 > 700) {
            return -1;
        }
        StringBuilder b = new StringBuilder(tape);
        for (int w : five) {
            b.append((char) (w >>> 24)).append((char) (w >>> 16 & 255));
            b.append((char) (w >>> 8 & 255)).append((char) (w & 255));
        }
        tape = b.toString();
        return tape.length();
    }

    boolean end(int n) {
        if (n < 0 || n > tape.length()) {
            return false;
        }
        tape = tape.substring(0, n);
        return true;
    }

    int pyramid() {
        fault = 0;
        faultPlace = -1;
        int answer = -1;
        try {
            s = parsePyramid();
            past.clear();
            season = 0;
            answer = s.clubs.size();
        } catch (Faulty f) {
            fault = f.number;
            faultPlace = f.place;
        }
        tape = "";
        return answer;
    }

    int day() {
        fault = 0;
        faultPlace = -1;
        int answer = -1;
        try {
            List<Match> list = parseDay();
            if (!list.isEmpty()) {
                remember();
                s.matches.addAll(list);
            }
            answer = list.size();
        } catch (Faulty f) {
            fault = f.number;
            faultPlace = f.place;
        }
        tape = "";
        return answer;
    }

    int fault(int what) {
        return what == 0 ? fault : what == 1 ? faultPlace : -1;
    }

    int named() {
        String wanted = tape.replaceAll("^[ \n]+|[ \n]+$", "");
        tape = "";
        for (int i = 0; i < s.clubs.size(); i++) {
            if (s.clubs.get(i).name.equals(wanted)) {
                return i;
            }
        }
        return -1;
    }

    // ---- deeds

    void remember() {
        past.addLast(s.copy());
        if (past.size() > 8) {
            past.removeFirst();
        }
    }

    Club get(int club) {
        return club >= 0 && club < s.clubs.size() ? s.clubs.get(club) : null;
    }

    Club player(int club) {
        Club c = get(club);
        return c != null && c.level >= 0 ? c : null;
    }

    boolean resign(int club) {
        if (player(club) == null || player(club).resigned) {
            return false;
        }
        remember();
        player(club).resigned = true;
        return true;
    }

    boolean refuse(int club) {
        if (player(club) == null || player(club).refused) {
            return false;
        }
        remember();
        player(club).refused = true;
        return true;
    }

    boolean deduct(int club, int n) {
        if (player(club) == null || n < 1 || n > 99 || player(club).deducted + n > 999) {
            return false;
        }
        remember();
        player(club).deducted += n;
        return true;
    }

    boolean grade(int club, int g) {
        Club c = get(club);
        if (c == null || c.level == -2 || g < 0 || g > 9 || c.grade == g) {
            return false;
        }
        remember();
        get(club).grade = g;
        return true;
    }

    boolean undo() {
        if (past.isEmpty()) {
            return false;
        }
        s = past.removeLast();
        return true;
    }

    // ---- points and ranks

    static List<Integer> in(State s, int level, int division) {
        List<Integer> list = new ArrayList<>();
        for (int i = 0; i < s.clubs.size(); i++) {
            Club c = s.clubs.get(i);
            if (c.level == level && (division < 0 || c.division == division)) {
                list.add(i);
            }
        }
        return list;
    }

    static int sum(State s, int club, int what) {
        int n = 0;
        for (Match m : s.matches) {
            if (m.home != club && m.away != club) {
                continue;
            }
            int mine = m.home == club ? m.goals : m.against;
            int theirs = m.home == club ? m.against : m.goals;
            n += switch (what) {
                case 0 -> 1;
                case 1 -> mine > theirs ? 1 : 0;
                case 2 -> mine == theirs ? 1 : 0;
                case 3 -> mine;
                default -> theirs;
            };
        }
        return n;
    }

    static int pts(State s, int club) {
        return sum(s, club, 1) * 3 + sum(s, club, 2) - s.clubs.get(club).deducted;
    }

    static float avg(State s, int club) {
        int n = sum(s, club, 0);
        return n == 0 ? 0 : (float) pts(s, club) / (float) n;
    }

    static List<Integer> table(State s, int level, int division) {
        List<Integer> list = in(s, level, division);
        Map<Integer, int[]> keys = new HashMap<>();
        for (int c : list) {
            keys.put(c, new int[] {-pts(s, c), sum(s, c, 4) - sum(s, c, 3), -sum(s, c, 3), c});
        }
        list.sort((a, b) -> java.util.Arrays.compare(keys.get(a), keys.get(b)));
        return list;
    }

    static List<Integer> order(State s, int level) {
        Map<Integer, Integer> rank = new HashMap<>();
        for (int d = 0; d < s.levels.get(level).divisions; d++) {
            List<Integer> t = table(s, level, d);
            for (int c : t) {
                rank.put(c, t.indexOf(c));
            }
        }
        Map<Integer, Float> average = new HashMap<>();
        for (int c : rank.keySet()) {
            average.put(c, avg(s, c));
        }
        List<Integer> list = in(s, level, -1);
        list.sort(Comparator.<Integer, Integer>comparing(rank::get)
                .thenComparing(average::get, Comparator.reverseOrder()).thenComparing(c -> c));
        return list;
    }

    // ---- miles

    static int miles(State s, int a, int b) {
        int dx = s.clubs.get(a).x - s.clubs.get(b).x;
        int dy = s.clubs.get(a).y - s.clubs.get(b).y;
        int n = 0;
        while ((n + 1) * (n + 1) <= dx * dx + dy * dy) {
            n++;
        }
        return n;
    }

    static int milesTo(State s, int club, List<Integer> others) {
        int n = 0;
        for (int o : others) {
            n += miles(s, club, o);
        }
        return n;
    }

    static int milesOf(State s, List<List<Integer>> parts) {
        int n = 0;
        for (List<Integer> p : parts) {
            for (int c : p) {
                n += milesTo(s, c, p);
            }
        }
        return n / 2;
    }

    static List<List<Integer>> now(State s, int level) {
        List<List<Integer>> parts = new ArrayList<>();
        for (int d = 0; d < s.levels.get(level).divisions; d++) {
            parts.add(in(s, level, d));
        }
        return parts;
    }

    /** All ways to part the clubs, tried one by one; the best by miles, then by the lists of clubs. */
    static List<List<Integer>> part(State s, int level) {
        List<Integer> clubs = in(s, level, -1);
        StringBuilder key = new StringBuilder().append(s.levels.get(level).size).append(':');
        for (int c : clubs) {
            key.append(c).append(' ').append(s.clubs.get(c).x).append(' ').append(s.clubs.get(c).y).append(';');
        }
        List<List<Integer>> known = PARTINGS.get(key.toString());
        if (known != null) {
            return known;
        }
        List<List<List<Integer>>> ways = new ArrayList<>();
        ways(clubs, s.levels.get(level).size, new ArrayList<>(), ways);
        // The ways are tried in a foreign order on purpose: the tie is broken by comparing alone.
        Collections.reverse(ways);
        List<List<Integer>> best = null;
        int fewest = 0;
        for (List<List<Integer>> way : ways) {
            int m = milesOf(s, way);
            if (best == null || m < fewest || m == fewest && flat(way, best) < 0) {
                best = way;
                fewest = m;
            }
        }
        PARTINGS.put(key.toString(), best);
        return best;
    }

    static int flat(List<List<Integer>> a, List<List<Integer>> b) {
        for (int d = 0; d < a.size(); d++) {
            for (int i = 0; i < a.get(d).size(); i++) {
                int by = a.get(d).get(i) - b.get(d).get(i);
                if (by != 0) {
                    return by;
                }
            }
        }
        return 0;
    }

    static void ways(List<Integer> left, int size, List<List<Integer>> made, List<List<List<Integer>>> ways) {
        if (left.isEmpty()) {
            ways.add(new ArrayList<>(made));
            return;
        }
        int n = left.size();
        for (int bits = 0; bits < 1 << n; bits++) {
            if ((bits & 1) == 1 && Integer.bitCount(bits) == size) {
                List<Integer> part = new ArrayList<>();
                List<Integer> rest = new ArrayList<>();
                for (int i = 0; i < n; i++) {
                    (((bits >> i) & 1) == 1 ? part : rest).add(left.get(i));
                }
                made.add(part);
                ways(rest, size, made, ways);
                made.remove(made.size() - 1);
            }
        }
    }

    // ---- the end of the season

    static final class Plan {
        List<List<List<Integer>>> moves = new ArrayList<>();
        int[] level;
        int up;
    }

    static int wanting(State s, int level) {
        int n = 0;
        for (Club c : s.clubs) {
            if (c.level >= 0 && c.level <= level && c.resigned) {
                n++;
            }
        }
        return n;
    }

    static List<Integer> may(State s, int level) {
        List<Integer> list = new ArrayList<>();
        if (level > 0) {
            for (int c : order(s, level)) {
                Club k = s.clubs.get(c);
                if (!k.resigned && !k.refused && k.grade >= s.levels.get(level - 1).need) {
                    list.add(c);
                }
            }
        }
        return list;
    }

    /** Null where the end can't be. */
    static Plan plan(State s) {
        int n = s.levels.size();
        if (n == 0) {
            return null;
        }
        Plan p = new Plan();
        p.level = new int[s.clubs.size()];
        for (int c = 0; c < p.level.length; c++) {
            p.level[c] = s.clubs.get(c).resigned ? -2 : s.clubs.get(c).level;
        }
        int[] up = new int[n];
        for (int l = 0; l < n - 1; l++) {
            int w = wanting(s, l);
            int k = Math.max(s.levels.get(l).down, w);
            k = Math.min(k, may(s, l + 1).size());
            up[l] = Math.max(k, w);
            p.up += up[l];
        }
        for (int l = 0; l < n; l++) {
            List<Integer> order = order(s, l);
            List<Integer> left = new ArrayList<>(order);
            left.removeIf(c -> s.clubs.get(c).resigned);
            List<Integer> goUp = new ArrayList<>();
            if (l > 0) {
                goUp.addAll(may(s, l));
                for (int c : left) {
                    if (!goUp.contains(c)) {
                        goUp.add(c);
                    }
                }
                if (goUp.size() < up[l - 1]) {
                    return null;
                }
                goUp = new ArrayList<>(goUp.subList(0, up[l - 1]));
            }
            left.removeAll(goUp);
            List<Integer> goDown = new ArrayList<>();
            List<Integer> spared = new ArrayList<>();
            if (l < n - 1) {
                int down = up[l] - wanting(s, l);
                if (left.size() < down) {
                    return null;
                }
                goDown.addAll(left.subList(left.size() - down, left.size()));
                spared.addAll(left.subList(Math.max(0, left.size() - s.levels.get(l).down), left.size()));
                spared.removeAll(goDown);
            }
            List<Integer> come = new ArrayList<>();
            if (l == n - 1) {
                List<Integer> waiting = in(s, -1, -1);
                if (waiting.size() < wanting(s, l)) {
                    return null;
                }
                come.addAll(waiting.subList(0, wanting(s, l)));
            }
            p.moves.add(List.of(goUp, goDown, spared, come));
            for (int c : goUp) {
                p.level[c] = l - 1;
            }
            for (int c : goDown) {
                p.level[c] = l + 1;
            }
            for (int c : come) {
                p.level[c] = l;
            }
        }
        return p;
    }

    int close() {
        Plan p = plan(s);
        if (p == null) {
            return -1;
        }
        for (int c = 0; c < p.level.length; c++) {
            Club k = s.clubs.get(c);
            k.level = p.level[c];
            k.division = -1;
            k.resigned = false;
            k.refused = false;
            k.deducted = 0;
        }
        s.matches.clear();
        for (int l = 0; l < s.levels.size(); l++) {
            List<List<Integer>> parts = part(s, l);
            for (int d = 0; d < parts.size(); d++) {
                for (int c : parts.get(d)) {
                    s.clubs.get(c).division = d;
                }
            }
        }
        past.clear();
        season++;
        return p.up;
    }

    // ---- answers

    boolean isLevel(int level) {
        return level >= 0 && level < s.levels.size();
    }

    boolean isDivision(int level, int division) {
        return isLevel(level) && division >= 0 && division < s.levels.get(level).divisions;
    }

    List<Integer> neighbours(int club) {
        List<Integer> list = in(s, s.clubs.get(club).level, s.clubs.get(club).division);
        list.remove(Integer.valueOf(club));
        return list;
    }

    int club(int club, int what) {
        Club c = get(club);
        if (c == null) {
            return -3;
        }
        return switch (what) {
            case 0 -> c.x;
            case 1 -> c.y;
            case 2 -> c.grade;
            case 3 -> c.level;
            case 4 -> c.division;
            case 5 -> c.resigned ? 1 : 0;
            case 6 -> c.refused ? 1 : 0;
            case 7 -> c.deducted;
            default -> -3;
        };
    }

    int of(int club, int what) {
        Club c = player(club);
        if (c == null || what < 0 || what > 7) {
            return -1;
        }
        if (what < 5) {
            return sum(s, club, what);
        }
        if (what == 5) {
            return table(s, c.level, c.division).indexOf(club) + 1;
        }
        return what == 6 ? order(s, c.level).indexOf(club) : milesTo(s, club, neighbours(club));
    }

    int points(int club) {
        return player(club) == null ? Integer.MIN_VALUE : pts(s, club);
    }

    int average(int club) {
        return player(club) == null ? -1 : Float.floatToIntBits(avg(s, club));
    }

    int ranked(int level, int division, int r) {
        if (!isDivision(level, division) || r < 1 || r > s.levels.get(level).size) {
            return -1;
        }
        return table(s, level, division).get(r - 1);
    }

    int order(int level, int i) {
        return isLevel(level) && i >= 0 && i < order(s, level).size() ? order(s, level).get(i) : -1;
    }

    int level(int level, int what) {
        if (!isLevel(level)) {
            return -1;
        }
        Level l = s.levels.get(level);
        return switch (what) {
            case 0 -> l.divisions;
            case 1 -> l.size;
            case 2 -> l.down;
            case 3 -> l.need;
            case 4 -> wanting(s, level);
            case 5 -> may(s, level).size();
            case 6 -> milesOf(s, now(s, level));
            case 7 -> milesOf(s, part(s, level));
            default -> -1;
        };
    }

    int moves(int level, int what, int i) {
        Plan p = plan(s);
        if (p == null || !isLevel(level) || what < 0 || what > 3) {
            return -1;
        }
        List<Integer> list = p.moves.get(level).get(what);
        if (i == -1) {
            return list.size();
        }
        return i >= 0 && i < list.size() ? list.get(i) : -1;
    }

    int would(int club) {
        Plan p = plan(s);
        return p == null || get(club) == null ? -3 : p.level[club];
    }

    int needs(int club) {
        if (player(club) == null) {
            return -1;
        }
        for (int g = 0; g <= 9; g++) {
            State t = s.copy();
            t.clubs.get(club).grade = g;
            Plan p = plan(t);
            if (p != null && p.moves.get(t.clubs.get(club).level).get(0).contains(club)) {
                return g;
            }
        }
        return -1;
    }

    int parted(int club) {
        if (player(club) == null) {
            return -1;
        }
        List<List<Integer>> parts = part(s, player(club).level);
        for (int d = 0; d < parts.size(); d++) {
            if (parts.get(d).contains(club)) {
                return d;
            }
        }
        return -1;
    }

    int swap(int level, int what) {
        if (!isLevel(level) || what < 0 || what > 2) {
            return -1;
        }
        int before = milesOf(s, now(s, level));
        int[] best = {-1, -1, 0};
        List<Integer> clubs = in(s, level, -1);
        for (int a : clubs) {
            for (int b : clubs) {
                if (a < b && s.clubs.get(a).division != s.clubs.get(b).division) {
                    State t = s.copy();
                    t.clubs.get(a).division = s.clubs.get(b).division;
                    t.clubs.get(b).division = s.clubs.get(a).division;
                    int saved = before - milesOf(t, now(t, level));
                    if (saved > best[2]) {
                        best = new int[] {a, b, saved};
                    }
                }
            }
        }
        return best[2] == 0 ? -1 : best[what];
    }

    int middle(int level) {
        if (!isLevel(level)) {
            return -1;
        }
        List<Integer> clubs = in(s, level, -1);
        return Collections.min(clubs, Comparator.<Integer>comparingInt(c -> milesTo(s, c, clubs))
                .thenComparing(c -> c));
    }

    long rest(int level, int division) {
        if (!isDivision(level, division)) {
            return -1;
        }
        int n = 0;
        List<Integer> clubs = in(s, level, division);
        for (Match m : s.matches) {
            if (clubs.contains(m.home)) {
                n++;
            }
        }
        double miles = 2 * milesOf(s, List.of(clubs));
        return n == 0 ? -1 : Double.doubleToLongBits(miles / (double) n % 1.0);
    }

    int match(int home, int away, int what) {
        for (Match m : s.matches) {
            if (m.home == home && m.away == away && (what == 0 || what == 1)) {
                return what == 0 ? m.goals : m.against;
            }
        }
        return -1;
    }

    int above(int club) {
        if (player(club) == null) {
            return -1;
        }
        int n = 0;
        for (int o : neighbours(club)) {
            int left = 0;
            for (int other : neighbours(o)) {
                left += (match(o, other, 0) < 0 ? 1 : 0) + (match(other, o, 0) < 0 ? 1 : 0);
            }
            n += pts(s, o) + 3 * left >= pts(s, club) ? 1 : 0;
        }
        return n;
    }

    int journeys(int club) {
        if (player(club) == null) {
            return -1;
        }
        int n = 0;
        for (Match m : s.matches) {
            n += m.away == club ? 2 * miles(s, m.home, m.away) : 0;
        }
        return n;
    }

    int nearest(int club) {
        if (player(club) == null) {
            return -1;
        }
        return Collections.min(neighbours(club), Comparator.<Integer>comparingInt(c -> miles(s, c, club))
                .thenComparing(c -> c));
    }

    int versus(int club, int other) {
        if (player(club) == null || player(other) == null || club == other) {
            return -1;
        }
        int mine = 0;
        int theirs = 0;
        for (Match m : s.matches) {
            if (m.home == club && m.away == other || m.home == other && m.away == club) {
                int by = (m.goals - m.against) * (m.home == club ? 1 : -1);
                mine += by > 0 ? 3 : by == 0 ? 1 : 0;
                theirs += by < 0 ? 3 : by == 0 ? 1 : 0;
            }
        }
        return mine * 10 + theirs;
    }

    int strangers(int level) {
        if (!isLevel(level)) {
            return -1;
        }
        int bits = 0;
        for (int c : new TreeSet<>(in(s, level, -1))) {
            for (int d = 0; d < s.levels.get(level).divisions; d++) {
                if (d != s.clubs.get(c).division
                        && milesTo(s, c, in(s, level, d)) < milesTo(s, c, neighbours(c))) {
                    bits |= 1 << c;
                }
            }
        }
        return bits;
    }

    int show(int level, int division) {
        if (!isDivision(level, division)) {
            return -1;
        }
        StringBuilder b = new StringBuilder();
        for (int c : table(s, level, division)) {
            b.append(s.clubs.get(c).name).append(' ').append(pts(s, c)).append(' ').append(sum(s, c, 0)).append(';');
        }
        shown = b.toString();
        return shown.length();
    }

    int out(int i) {
        return i >= 0 && i < shown.length() ? shown.charAt(i) : -1;
    }

    int look(int what) {
        return switch (what) {
            case 0 -> s.levels.size();
            case 1 -> s.clubs.size();
            case 2 -> in(s, -1, -1).size();
            case 3 -> in(s, -2, -1).size();
            case 4 -> season;
            case 5 -> s.matches.size();
            case 6 -> past.size();
            case 7 -> tape.length();
            default -> -1;
        };
    }
}
