import java.util.ArrayDeque;
import java.util.ArrayList;
import java.util.Comparator;
import java.util.HashMap;
import java.util.HashSet;
import java.util.List;
import java.util.Map;
import java.util.Set;
import java.util.function.ToIntFunction;
import java.util.regex.Matcher;
import java.util.regex.Pattern;

/** The document once more, as plainly as the Java library lets it be said, to compare answers with. */
final class Model {
    private static final int INVALID = -1000001;
    private static final int NOT_POSSIBLE = -1000002;
    private static final int LIMIT = -1000003;
    private static final int NOT_FOUND = -1000004;
    private static final int[] DX = {0, 1, 0, -1};
    private static final int[] DY = {-1, 0, 1, 0};
    private static final Pattern[] FORMS = {
        Pattern.compile("([kwc])([0-9]{1,3}),([0-9]{1,3});"),
        Pattern.compile("(p)([0-9]{1,3}),([0-9]{1,3}),([0-9]{1,3}),([0-9]{1,3});"),
        Pattern.compile("(r);"),
    };

    private State now = new State();
    private final ArrayDeque<State> history = new ArrayDeque<>();
    private String text = "";

    private static final class Cart {
        int number;
        Integer cell;
        int start;
        int direction;
        int damage;
        int touched;
        int wasOut;
        int wasStopped;
        Map<Integer, int[]> cards = new HashMap<>();

        Cart copy() {
            Cart c = new Cart();
            c.number = number;
            c.cell = cell;
            c.start = start;
            c.direction = direction;
            c.damage = damage;
            c.touched = touched;
            c.wasOut = wasOut;
            c.wasStopped = wasStopped;
            c.cards = new HashMap<>(cards);
            return c;
        }

        boolean locked(int register) {
            return 5 - register <= damage - 4;
        }

        int set(java.util.function.IntPredicate has) {
            int bits = 0;
            for (int r = 0; r < 5; r++) {
                bits += has.test(r) ? 1 << r : 0;
            }
            return bits;
        }
    }

    private static final class State {
        Map<Integer, Integer> kinds = new HashMap<>();
        /** Each wall as the two cells beside it, the lower one first, -1 to -4 for beyond the edges. */
        Set<List<Integer>> walls = new HashSet<>();
        List<Integer> flags = new ArrayList<>();
        List<Cart> carts = new ArrayList<>();
        int phases;
        int pushes;
        Integer first;

        State copy() {
            State s = new State();
            s.kinds = new HashMap<>(kinds);
            s.walls = new HashSet<>(walls);
            s.flags = new ArrayList<>(flags);
            for (Cart c : carts) {
                s.carts.add(c.copy());
            }
            s.phases = phases;
            s.pushes = pushes;
            s.first = first;
            return s;
        }

        int kind(int cell) {
            return kinds.getOrDefault(cell, 0);
        }

        int next() {
            return phases % 5;
        }

        static Integer beside(int cell, int direction) {
            int x = cell % 8 + DX[direction];
            int y = cell / 8 + DY[direction];
            return x < 0 || x > 7 || y < 0 || y > 7 ? null : 8 * y + x;
        }

        static List<Integer> between(int cell, int side) {
            Integer other = beside(cell, side);
            int beyond = other == null ? -1 - side : other;
            return List.of(Math.min(cell, beyond), Math.max(cell, beyond));
        }

        boolean wall(int cell, int side) {
            return walls.contains(between(cell, side));
        }

        Cart on(Integer cell) {
            for (Cart c : carts) {
                if (c.cell != null && c.cell.equals(cell)) {
                    return c;
                }
            }
            return null;
        }

        Cart cart(int number) {
            return number >= 0 && number < carts.size() ? carts.get(number) : null;
        }

        void out(Cart c) {
            c.cell = null;
            c.wasOut++;
        }

        int outs() {
            return carts.stream().mapToInt(c -> c.wasOut).sum();
        }

        boolean step(Cart c, int direction) {
            if (wall(c.cell, direction)) {
                return false;
            }
            Integer to = beside(c.cell, direction);
            if (to == null) {
                out(c);
                return true;
            }
            Cart other = on(to);
            if (other != null) {
                if (!step(other, direction)) {
                    return false;
                }
                pushes++;
            }
            c.cell = to;
            if (kind(to) == 7) {
                out(c);
            }
            return true;
        }

        List<Cart> turns() {
            List<Cart> those = new ArrayList<>();
            for (Cart c : carts) {
                if (c.cell != null && c.cards.containsKey(next())) {
                    those.add(c);
                }
            }
            ToIntFunction<Cart> rank = c -> c.cards.get(next())[1];
            those.sort(Comparator.comparingInt(rank).reversed().thenComparingInt(c -> c.number));
            return those;
        }

        void doCard(Cart c) {
            int move = c.cards.get(next())[0];
            if (move >= 4) {
                c.direction = (c.direction + (move == 4 ? 3 : move - 4)) % 4;
                return;
            }
            int direction = move == 3 ? (c.direction + 2) % 4 : c.direction;
            for (int left = move == 3 ? 1 : move + 1; left > 0 && c.cell != null; left--) {
                if (!step(c, direction)) {
                    c.wasStopped++;
                    c.damage = Math.min(9, c.damage + 1);
                    break;
                }
            }
        }

        boolean onBelt(Cart c) {
            return c.cell != null && kind(c.cell) >= 1 && kind(c.cell) <= 4;
        }

        Integer wants(Cart c) {
            return beside(c.cell, kind(c.cell) - 1);
        }

        /** Whether just these carts can be those that are carried. */
        boolean canCarry(Set<Cart> those) {
            for (Cart c : those) {
                if (!onBelt(c) || wall(c.cell, kind(c.cell) - 1)) {
                    return false;
                }
                for (Cart other : carts) {
                    if (other == c || other.cell == null || wants(c) == null) {
                        continue;
                    }
                    if (onBelt(other) && wants(c).equals(wants(other))) {
                        return false;
                    }
                    boolean wantsBack = onBelt(other) && c.cell.equals(wants(other));
                    if (wants(c).equals(other.cell) && (!those.contains(other) || wantsBack)) {
                        return false;
                    }
                }
            }
            return true;
        }

        void belts() {
            Set<Cart> most = Set.of();
            for (int bits = 0; bits < 1 << carts.size(); bits++) {
                Set<Cart> those = new HashSet<>();
                for (Cart c : carts) {
                    if ((bits >> c.number & 1) == 1) {
                        those.add(c);
                    }
                }
                if (those.size() > most.size() && canCarry(those)) {
                    most = those;
                }
            }
            Map<Cart, Integer> goals = new HashMap<>();
            for (Cart c : most) {
                goals.put(c, wants(c));
            }
            for (Cart c : most) {
                c.cell = goals.get(c);
                if (c.cell == null || kind(c.cell) == 7) {
                    out(c);
                }
            }
        }

        int phase() {
            int before = outs();
            for (Cart c : turns()) {
                if (c.cell != null) {
                    doCard(c);
                }
            }
            belts();
            for (Cart c : carts) {
                int kind = c.cell == null ? 0 : kind(c.cell);
                c.direction = (c.direction + (kind == 5 ? 3 : kind == 6 ? 1 : 0)) % 4;
            }
            for (Cart c : carts) {
                if (c.touched < flags.size() && flags.get(c.touched).equals(c.cell)) {
                    c.touched++;
                    if (first == null && c.touched == flags.size()) {
                        first = c.number;
                    }
                }
            }
            int went = outs() - before;
            if (next() == 4) {
                roundEnds();
            }
            phases++;
            return went;
        }

        void roundEnds() {
            for (Cart c : carts) {
                if (c.cell != null && kind(c.cell) == 8 && c.damage > 0) {
                    c.damage--;
                }
                c.cards.keySet().removeIf(r -> !c.locked(r));
            }
            for (Cart c : carts) {
                if (c.cell != null) {
                    continue;
                }
                List<Integer> places = new ArrayList<>();
                places.add(c.start);
                for (int cell = 0; cell < 64; cell++) {
                    places.add(cell);
                }
                places.removeIf(cell -> kind(cell) == 7 || on(cell) != null);
                c.cell = places.isEmpty() ? null : places.get(0);
                c.direction = 0;
                c.damage = 2;
                c.cards.clear();
            }
        }
    }

    private static boolean in(int number, int from, int to) {
        return from <= number && number <= to;
    }

    /** Does a change by its letter: "kwfcpdrR", or "!" for the text. */
    private int change(State s, char which, int... a) {
        switch (which) {
            case 'k': {
                if (!in(a[0], 0, 63) || !in(a[1], 0, 8)) {
                    return INVALID;
                }
                if (a[1] == 7 && s.on(a[0]) != null) {
                    return NOT_POSSIBLE;
                }
                Integer was = s.kinds.put(a[0], a[1]);
                return was == null ? 0 : was;
            }
            case 'w': {
                if (!in(a[0], 0, 63) || !in(a[1], 0, 3)) {
                    return INVALID;
                }
                List<Integer> place = State.between(a[0], a[1]);
                if (s.walls.remove(place)) {
                    return 0;
                }
                s.walls.add(place);
                return 1;
            }
            case 'f':
                if (!in(a[0], 0, 3) || !in(a[1], 0, 63)) {
                    return INVALID;
                }
                if (a[0] > s.flags.size()) {
                    return NOT_POSSIBLE;
                }
                if (a[0] == s.flags.size()) {
                    s.flags.add(a[1]);
                } else {
                    s.flags.set(a[0], a[1]);
                }
                return s.flags.size();
            case 'c':
                return addCart(s, a[0], a[1]);
            case 'p':
                return layCard(s, a[0], a[1], a[2], a[3]);
            case 'd': {
                Cart c = s.cart(a[0]);
                if (c == null || !in(a[1], -9, 9)) {
                    return INVALID;
                }
                if (c.cell == null) {
                    return NOT_POSSIBLE;
                }
                c.damage = Math.min(9, Math.max(0, c.damage + a[1]));
                return c.damage;
            }
            case 'r':
                return s.carts.isEmpty() ? NOT_POSSIBLE : s.phase();
            case 'R': {
                if (s.carts.isEmpty()) {
                    return NOT_POSSIBLE;
                }
                int went = 0;
                do {
                    went += s.phase();
                } while (s.next() != 0);
                return went;
            }
            default: {
                int[] fault = run(s);
                return fault[1] != 0 ? NOT_POSSIBLE : fault[3];
            }
        }
    }

    private static int addCart(State s, int cell, int direction) {
        if (!in(cell, 0, 63) || !in(direction, 0, 3)) {
            return INVALID;
        }
        if (s.kind(cell) == 7 || s.on(cell) != null) {
            return NOT_POSSIBLE;
        }
        if (s.carts.size() == 4) {
            return LIMIT;
        }
        Cart c = new Cart();
        c.number = s.carts.size();
        c.start = cell;
        c.cell = cell;
        c.direction = direction;
        s.carts.add(c);
        return c.number;
    }

    private static int layCard(State s, int cart, int register, int move, int rank) {
        Cart c = s.cart(cart);
        if (c == null || !in(register, 0, 4) || !in(move, 0, 6) || !in(rank, 1, 999)) {
            return INVALID;
        }
        if (c.locked(register) || c.cell == null || register < s.next()) {
            return NOT_POSSIBLE;
        }
        c.cards.put(register, new int[] {move, rank});
        return c.cards.size();
    }

    /** Does the text's orders: position, reason (0: no fault), cause, and how many were done. */
    private int[] run(State s) {
        int position = 0;
        int done = 0;
        while (position < text.length()) {
            String rest = text.substring(position);
            Matcher order = null;
            for (Pattern form : FORMS) {
                Matcher m = form.matcher(rest);
                if (m.lookingAt()) {
                    order = m;
                }
            }
            if (order == null) {
                return new int[] {position, 1, breaksOff(rest), done};
            }
            int[] numbers = new int[order.groupCount() - 1];
            for (int i = 0; i < numbers.length; i++) {
                numbers[i] = Integer.parseInt(order.group(i + 2));
            }
            int answer = change(s, order.group(1).charAt(0), numbers);
            if (answer < 0) {
                return new int[] {position, 2, answer, done};
            }
            position += order.end();
            done++;
        }
        return new int[] {0, 0, 0, done};
    }

    /** The length of the longest beginning that could be the beginning of an order. */
    private static int breaksOff(String rest) {
        for (int length = rest.length(); length > 0; length--) {
            for (Pattern form : FORMS) {
                Matcher m = form.matcher(rest.substring(0, length));
                if (!m.matches() && m.hitEnd()) {
                    return length;
                }
            }
        }
        return 0;
    }

    int changed(char which, int... a) {
        State then = now.copy();
        int answer = change(then, which, a);
        if (answer >= 0) {
            history.addLast(now);
            if (history.size() == 5) {
                history.removeFirst();
            }
            now = then;
        }
        return answer;
    }

    int cellOf(int cell, int what) {
        if (!in(cell, 0, 63) || !in(what, 0, 3)) {
            return INVALID;
        }
        switch (what) {
            case 0:
                return now.kind(cell);
            case 1: {
                int bits = 0;
                for (int side = 0; side < 4; side++) {
                    bits += now.wall(cell, side) ? 1 << side : 0;
                }
                return bits;
            }
            case 2:
                return now.on(cell) == null ? NOT_FOUND : now.on(cell).number;
            default:
                return now.flags.contains(cell) ? now.flags.indexOf(cell) : NOT_FOUND;
        }
    }

    private static int value(Cart c, int what) {
        switch (what) {
            case 0:
                return c.cell == null ? NOT_FOUND : c.cell;
            case 1:
                return c.cell == null ? NOT_FOUND : c.direction;
            case 2:
                return c.damage;
            case 3:
                return c.touched;
            case 4:
                return c.start;
            case 5:
                return c.set(c::locked);
            case 6:
                return c.set(c.cards::containsKey);
            case 7:
                return c.wasOut;
            default:
                return c.wasStopped;
        }
    }

    int cartOf(int cart, int what) {
        return now.cart(cart) == null || !in(what, 0, 8) ? INVALID : value(now.cart(cart), what);
    }

    int cardOf(int cart, int register, int what) {
        if (now.cart(cart) == null || !in(register, 0, 4) || !in(what, 0, 1)) {
            return INVALID;
        }
        int[] card = now.cart(cart).cards.get(register);
        return card == null ? NOT_FOUND : card[what];
    }

    int turn(int place) {
        if (place < 0) {
            return INVALID;
        }
        return place < now.turns().size() ? now.turns().get(place).number : NOT_FOUND;
    }

    int would(int cart, int phases, int what) {
        if (now.cart(cart) == null || !in(phases, 0, 20) || !in(what, 0, 3)) {
            return INVALID;
        }
        State s = now.copy();
        for (int i = 0; i < phases; i++) {
            s.phase();
        }
        return value(s.cart(cart), what);
    }

    int best(int cart, int rank, int what) {
        Cart c = now.cart(cart);
        if (c == null || !in(rank, 1, 999) || !in(what, 0, 1)) {
            return INVALID;
        }
        if (c.cell == null || c.locked(now.next()) || c.touched == now.flags.size()) {
            return NOT_POSSIBLE;
        }
        int flag = now.flags.get(c.touched);
        int best = NOT_FOUND;
        int nearest = 99;
        for (int move = 6; move >= 0; move--) {
            State s = now.copy();
            s.cart(cart).cards.put(s.next(), new int[] {move, rank});
            s.phase();
            Cart then = s.cart(cart);
            if (then.wasOut > c.wasOut) {
                continue;
            }
            int far = Math.abs(then.cell % 8 - flag % 8) + Math.abs(then.cell / 8 - flag / 8);
            if (far <= nearest) {
                nearest = far;
                best = move;
            }
        }
        return what == 0 || best == NOT_FOUND ? best : nearest;
    }

    int steps(int from, int to) {
        if (!in(from, 0, 63) || !in(to, 0, 63)) {
            return INVALID;
        }
        Set<Integer> reached = new HashSet<>(Set.of(from));
        for (int steps = 0; steps < 64; steps++) {
            if (reached.contains(to)) {
                return steps;
            }
            for (int cell : List.copyOf(reached)) {
                for (int d = 0; d < 4; d++) {
                    Integer next = State.beside(cell, d);
                    if (next != null && !now.wall(cell, d) && now.kind(next) != 7) {
                        reached.add(next);
                    }
                }
            }
        }
        return NOT_FOUND;
    }

    int count(int what) {
        switch (what) {
            case 0:
                return now.carts.size();
            case 1:
                return now.next();
            case 2:
                return now.phases / 5;
            case 3:
                return now.flags.size();
            case 4:
                return (int) now.carts.stream().filter(c -> c.cell == null).count();
            case 5:
                return now.first == null ? NOT_FOUND : now.first;
            case 6:
                return now.phases;
            case 7:
                return history.size();
            case 8:
                return text.length();
            case 9:
                return now.pushes;
            default:
                return INVALID;
        }
    }

    int undo() {
        if (history.isEmpty()) {
            return NOT_POSSIBLE;
        }
        now = history.removeLast();
        return history.size();
    }

    int type(int character) {
        if (!in(character, 32, 126)) {
            return INVALID;
        }
        if (text.length() == 60) {
            return LIMIT;
        }
        text += (char) character;
        return text.length();
    }

    int clearText() {
        int had = text.length();
        text = "";
        return had;
    }

    int fault(int what) {
        if (!in(what, 0, 2)) {
            return INVALID;
        }
        int[] fault = run(now.copy());
        return fault[1] == 0 ? NOT_FOUND : fault[what];
    }
}
