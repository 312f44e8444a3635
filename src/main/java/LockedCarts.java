import java.util.Arrays;

/** A race of carts by cards that are laid ahead; ../shared/DOC.md says what each call promises. */
public final class LockedCarts {
    public static final int INVALID_ARGUMENT = -1000001;
    public static final int NOT_POSSIBLE = -1000002;
    public static final int LIMIT_REACHED = -1000003;
    public static final int NOT_FOUND = -1000004;

    private static final int SIZE = 8;
    private static final int CELLS = 64;
    private static final int DIRECTIONS = 4;
    private static final int MAX_FLAGS = 4;
    private static final int MAX_CARTS = 4;
    private static final int REGISTERS = 5;
    private static final int MAX_RANK = 999;
    private static final int MAX_DAMAGE = 9;
    private static final int UNLOCKED_DAMAGE = 4;
    private static final int RETURN_DAMAGE = 2;
    private static final int MAX_PHASES_AHEAD = 20;
    private static final int MAX_STATES = 4;
    private static final int MAX_TEXT = 60;
    private static final int FIRST_SIGN = 32;
    private static final int LAST_SIGN = 126;

    private static final int FIRST_BELT = 1;
    private static final int LAST_BELT = 4;
    private static final int GEAR_LEFT = 5;
    private static final int GEAR_RIGHT = 6;
    private static final int PIT = 7;
    private static final int REPAIR = 8;

    private static final int STEP_BACK = 3;
    private static final int TURN_LEFT = 4;
    private static final int TURN_RIGHT = 5;
    private static final int TURN_ABOUT = 6;

    private static final int QUARTER_RIGHT = 1;
    private static final int HALF = 2;
    private static final int QUARTER_LEFT = 3;

    /** No cell, no cart: it stands for a cell off the board and for the cell of a cart that is out, too. */
    private static final int NONE = -1;

    private final Race race = new Race();
    /** A copy of the race: changes are done on it first, so that one that fails leaves the race as it was. */
    private final Race trial = new Race();
    private final History history = new History();
    private final PhaseRunner runner = new PhaseRunner();
    private final Ways ways = new Ways();
    private final OrderText text = new OrderText();
    private final OrderRunner orders = new OrderRunner(text, runner);

    public LockedCarts() {
    }

    public int kind(int cell, int kind) {
        return keep(freshTrial().setKind(cell, kind));
    }

    public int wall(int cell, int side) {
        return keep(freshTrial().flipWall(cell, side));
    }

    public int flag(int flag, int cell) {
        return keep(freshTrial().layFlag(flag, cell));
    }

    public int cart(int cell, int direction) {
        return keep(freshTrial().addCart(cell, direction));
    }

    public int card(int cart, int register, int move, int rank) {
        return keep(freshTrial().layCard(cart, register, move, rank));
    }

    public int damage(int cart, int by) {
        return keep(freshTrial().harm(cart, by));
    }

    public int phase() {
        return keep(runner.runNext(freshTrial()));
    }

    public int round() {
        return keep(runner.runToRoundEnd(freshTrial()));
    }

    public int cellOf(int cell, int what) {
        if (!isCell(cell) || !isWithin(what, 0, 3)) {
            return INVALID_ARGUMENT;
        }
        return race.cellValue(cell, what);
    }

    public int cartOf(int cart, int what) {
        if (!race.hasCart(cart) || !isWithin(what, 0, 8)) {
            return INVALID_ARGUMENT;
        }
        return race.carts[cart].value(what);
    }

    public int cardOf(int cart, int register, int what) {
        if (!race.hasCart(cart) || !isRegister(register) || !isWithin(what, 0, 1)) {
            return INVALID_ARGUMENT;
        }
        Cart owner = race.carts[cart];
        if (!owner.hasCard(register)) {
            return NOT_FOUND;
        }
        return what == 0 ? owner.moves[register] : owner.ranks[register];
    }

    public int turn(int place) {
        if (place < 0) {
            return INVALID_ARGUMENT;
        }
        return runner.cartInTurn(race, place);
    }

    public int would(int cart, int phases, int what) {
        if (!race.hasCart(cart) || !isWithin(phases, 0, MAX_PHASES_AHEAD) || !isWithin(what, 0, 3)) {
            return INVALID_ARGUMENT;
        }
        Race ahead = freshTrial();
        for (int i = 0; i < phases; i++) {
            runner.runNext(ahead);
        }
        return ahead.carts[cart].value(what);
    }

    public int best(int cart, int rank, int what) {
        if (!race.hasCart(cart) || !isWithin(rank, 1, MAX_RANK) || !isWithin(what, 0, 1)) {
            return INVALID_ARGUMENT;
        }
        Cart chooser = race.carts[cart];
        if (chooser.isOut() || chooser.isLocked(race.nextPhase) || chooser.touched >= race.board.flagCount) {
            return NOT_POSSIBLE;
        }
        int goal = race.board.flags[chooser.touched];
        int bestMove = NONE;
        int nearest = NONE;
        for (int move = 0; move <= TURN_ABOUT; move++) {
            int distance = distanceBehind(cart, move, rank, goal);
            if (distance != NONE && (nearest == NONE || distance < nearest)) {
                bestMove = move;
                nearest = distance;
            }
        }
        if (bestMove == NONE) {
            return NOT_FOUND;
        }
        return what == 0 ? bestMove : nearest;
    }

    public int steps(int from, int to) {
        if (!isCell(from) || !isCell(to)) {
            return INVALID_ARGUMENT;
        }
        return ways.shortest(race.board, from, to);
    }

    public int count(int what) {
        switch (what) {
            case 0:
                return race.cartCount;
            case 1:
                return race.nextPhase;
            case 2:
                return race.rounds;
            case 3:
                return race.board.flagCount;
            case 4:
                return race.cartsOut();
            case 5:
                return race.winner == NONE ? NOT_FOUND : race.winner;
            case 6:
                return race.phasesDone;
            case 7:
                return history.size;
            case 8:
                return text.length;
            case 9:
                return race.pushes;
            default:
                return INVALID_ARGUMENT;
        }
    }

    public int undo() {
        if (history.size == 0) {
            return NOT_POSSIBLE;
        }
        history.restore(race);
        return history.size;
    }

    public int type(int character) {
        if (!isWithin(character, FIRST_SIGN, LAST_SIGN)) {
            return INVALID_ARGUMENT;
        }
        return text.append((char) character);
    }

    public int clearText() {
        int had = text.length;
        text.length = 0;
        return had;
    }

    public int fault(int what) {
        if (!isWithin(what, 0, 2)) {
            return INVALID_ARGUMENT;
        }
        orders.doAll(freshTrial());
        if (!orders.isFaulty()) {
            return NOT_FOUND;
        }
        switch (what) {
            case 0:
                return orders.position;
            case 1:
                return orders.reason;
            default:
                return orders.cause;
        }
    }

    public int play() {
        orders.doAll(freshTrial());
        return keep(orders.isFaulty() ? NOT_POSSIBLE : orders.done);
    }

    private Race freshTrial() {
        trial.copyFrom(race);
        return trial;
    }

    /** Takes the trial over as the race, unless its answer is an error. */
    private int keep(int answer) {
        if (!isError(answer)) {
            history.add(race);
            race.copyFrom(trial);
        }
        return answer;
    }

    /** How far a cart is from a cell behind the next phase with such a card; NONE if it was out in it. */
    private int distanceBehind(int cart, int move, int rank, int goal) {
        Race ahead = freshTrial();
        Cart chooser = ahead.carts[cart];
        chooser.lay(ahead.nextPhase, move, rank);
        int timesOut = chooser.timesOut;
        runner.runNext(ahead);
        // A cart that came back at the end of the round is on the board, but was out all the same.
        if (chooser.timesOut != timesOut || chooser.isOut()) {
            return NONE;
        }
        return Board.distance(chooser.cell, goal);
    }

    private static boolean isWithin(int number, int least, int greatest) {
        return number >= least && number <= greatest;
    }

    private static boolean isCell(int number) {
        return number >= 0 && number < CELLS;
    }

    private static boolean isDirection(int number) {
        return number >= 0 && number < DIRECTIONS;
    }

    private static boolean isRegister(int number) {
        return number >= 0 && number < REGISTERS;
    }

    /** All answers that are no errors are 0 or more. */
    private static boolean isError(int answer) {
        return answer < 0;
    }

    private static int turned(int direction, int quarters) {
        return (direction + quarters) & (DIRECTIONS - 1);
    }

    /** The cells with their kinds and walls, and the flags on them. */
    private static final class Board {
        final int[] kinds = new int[CELLS];
        final int[] walls = new int[CELLS];
        final int[] flags = new int[MAX_FLAGS];
        int flagCount;

        void copyFrom(Board other) {
            System.arraycopy(other.kinds, 0, kinds, 0, CELLS);
            System.arraycopy(other.walls, 0, walls, 0, CELLS);
            System.arraycopy(other.flags, 0, flags, 0, MAX_FLAGS);
            flagCount = other.flagCount;
        }

        /** The kind of a cell, NONE off the board. */
        int kindOn(int cell) {
            return cell >= 0 && cell < CELLS ? kinds[cell] : NONE;
        }

        boolean isPit(int cell) {
            return cell >= 0 && cell < CELLS && kinds[cell] == PIT;
        }

        /** The sides of a cell with walls, as bits. */
        int wallsOf(int cell) {
            return cell >= 0 && cell < CELLS ? walls[cell] : 0;
        }

        boolean hasWall(int cell, int side) {
            return cell >= 0 && cell < CELLS && (walls[cell] >> side & 1) != 0;
        }

        /** A wall stands on a side of both cells; at the edge there is only one. */
        void flipWall(int cell, int side) {
            flipSide(cell, side);
            flipSide(neighbour(cell, side), turned(side, HALF));
        }

        private void flipSide(int cell, int side) {
            if (cell >= 0 && cell < CELLS) {
                walls[cell] ^= 1 << side;
            }
        }

        int lowestFlagOn(int cell) {
            for (int flag = 0; flag < flagCount; flag++) {
                if (flags[flag] == cell) {
                    return flag;
                }
            }
            return NOT_FOUND;
        }

        /** The next cell in a direction, NONE if it is off the board. */
        static int neighbour(int cell, int direction) {
            if (cell < 0 || cell >= CELLS) {
                return NONE;
            }
            int x = cell % SIZE;
            switch (direction) {
                case 0:
                    return cell >= SIZE ? cell - SIZE : NONE;
                case 1:
                    return x < SIZE - 1 ? cell + 1 : NONE;
                case 2:
                    return cell < CELLS - SIZE ? cell + SIZE : NONE;
                case 3:
                    return x > 0 ? cell - 1 : NONE;
                default:
                    return NONE;
            }
        }

        static int distance(int a, int b) {
            return Math.abs(a % SIZE - b % SIZE) + Math.abs(a / SIZE - b / SIZE);
        }
    }

    /** A cart with its registers; a register with the rank 0 is empty. */
    private static final class Cart {
        final int[] moves = new int[REGISTERS];
        final int[] ranks = new int[REGISTERS];
        int start;
        int cell = NONE;
        int direction;
        int damage;
        int touched;
        int timesOut;
        int timesStopped;

        void copyFrom(Cart other) {
            System.arraycopy(other.moves, 0, moves, 0, REGISTERS);
            System.arraycopy(other.ranks, 0, ranks, 0, REGISTERS);
            start = other.start;
            cell = other.cell;
            direction = other.direction;
            damage = other.damage;
            touched = other.touched;
            timesOut = other.timesOut;
            timesStopped = other.timesStopped;
        }

        /** Brings a cart in that no state has had yet: all else of it is as new. */
        void begin(int atCell, int inDirection) {
            start = atCell;
            cell = atCell;
            direction = inDirection;
        }

        boolean isOut() {
            return cell == NONE;
        }

        boolean hasCard(int register) {
            return ranks[register] > 0;
        }

        int unlockedRegisters() {
            return REGISTERS - Math.max(0, damage - UNLOCKED_DAMAGE);
        }

        boolean isLocked(int register) {
            return register >= unlockedRegisters();
        }

        void lay(int register, int move, int rank) {
            moves[register] = move;
            ranks[register] = rank;
        }

        void emptyRegisters(int howMany) {
            Arrays.fill(ranks, 0, howMany, 0);
        }

        void addDamage(int by) {
            damage = Math.max(0, Math.min(MAX_DAMAGE, damage + by));
        }

        void bump() {
            timesStopped++;
            addDamage(1);
        }

        int lockedSet() {
            int set = 0;
            for (int register = unlockedRegisters(); register < REGISTERS; register++) {
                set |= 1 << register;
            }
            return set;
        }

        int cardSet() {
            int set = 0;
            for (int register = 0; register < REGISTERS; register++) {
                if (ranks[register] > 0) {
                    set |= 1 << register;
                }
            }
            return set;
        }

        int value(int what) {
            switch (what) {
                case 0:
                    return isOut() ? NOT_FOUND : cell;
                case 1:
                    return isOut() ? NOT_FOUND : direction;
                case 2:
                    return damage;
                case 3:
                    return touched;
                case 4:
                    return start;
                case 5:
                    return lockedSet();
                case 6:
                    return cardSet();
                case 7:
                    return timesOut;
                case 8:
                    return timesStopped;
                default:
                    return INVALID_ARGUMENT;
            }
        }
    }

    /** All that a change can change: what a state of the history holds. */
    private static final class Race {
        final Board board = new Board();
        final Cart[] carts = {new Cart(), new Cart(), new Cart(), new Cart()};
        int cartCount;
        int nextPhase;
        int rounds;
        int phasesDone;
        int pushes;
        int winner = NONE;

        void copyFrom(Race other) {
            board.copyFrom(other.board);
            for (int n = 0; n < MAX_CARTS; n++) {
                carts[n].copyFrom(other.carts[n]);
            }
            cartCount = other.cartCount;
            nextPhase = other.nextPhase;
            rounds = other.rounds;
            phasesDone = other.phasesDone;
            pushes = other.pushes;
            winner = other.winner;
        }

        boolean hasCart(int n) {
            return n >= 0 && n < cartCount;
        }

        /** The number of the cart on a cell, NONE if there is none or no such cell. */
        int cartOn(int cell) {
            for (int n = 0; n < cartCount; n++) {
                if (carts[n].cell == cell && cell != NONE) {
                    return n;
                }
            }
            return NONE;
        }

        int cartsOut() {
            int out = 0;
            for (int n = 0; n < cartCount; n++) {
                if (carts[n].isOut()) {
                    out++;
                }
            }
            return out;
        }

        int timesOut() {
            int times = 0;
            for (int n = 0; n < cartCount; n++) {
                times += carts[n].timesOut;
            }
            return times;
        }

        int cellValue(int cell, int what) {
            switch (what) {
                case 0:
                    return board.kindOn(cell);
                case 1:
                    return board.wallsOf(cell);
                case 2:
                    return cartOn(cell) == NONE ? NOT_FOUND : cartOn(cell);
                default:
                    return board.lowestFlagOn(cell);
            }
        }

        int setKind(int cell, int kind) {
            if (!isCell(cell) || !isWithin(kind, 0, REPAIR)) {
                return INVALID_ARGUMENT;
            }
            if (kind == PIT && cartOn(cell) != NONE) {
                return NOT_POSSIBLE;
            }
            int before = board.kinds[cell];
            board.kinds[cell] = kind;
            return before;
        }

        int flipWall(int cell, int side) {
            if (!isCell(cell) || !isDirection(side)) {
                return INVALID_ARGUMENT;
            }
            board.flipWall(cell, side);
            return board.hasWall(cell, side) ? 1 : 0;
        }

        int layFlag(int flag, int cell) {
            if (!isWithin(flag, 0, MAX_FLAGS - 1) || !isCell(cell)) {
                return INVALID_ARGUMENT;
            }
            if (flag > board.flagCount) {
                return NOT_POSSIBLE;
            }
            board.flags[flag] = cell;
            board.flagCount = Math.max(board.flagCount, flag + 1);
            return board.flagCount;
        }

        int addCart(int cell, int direction) {
            if (!isCell(cell) || !isDirection(direction)) {
                return INVALID_ARGUMENT;
            }
            if (cartOn(cell) != NONE || board.isPit(cell)) {
                return NOT_POSSIBLE;
            }
            if (cartCount >= MAX_CARTS) {
                return LIMIT_REACHED;
            }
            carts[cartCount].begin(cell, direction);
            cartCount++;
            return cartCount - 1;
        }

        int layCard(int n, int register, int move, int rank) {
            if (!hasCart(n) || !isRegister(register)
                    || !isWithin(move, 0, TURN_ABOUT) || !isWithin(rank, 1, MAX_RANK)) {
                return INVALID_ARGUMENT;
            }
            Cart cart = carts[n];
            if (cart.isLocked(register) || cart.isOut() || register < nextPhase) {
                return NOT_POSSIBLE;
            }
            cart.lay(register, move, rank);
            return Integer.bitCount(cart.cardSet());
        }

        int harm(int n, int by) {
            if (!hasCart(n) || !isWithin(by, -MAX_DAMAGE, MAX_DAMAGE)) {
                return INVALID_ARGUMENT;
            }
            Cart cart = carts[n];
            if (cart.isOut()) {
                return NOT_POSSIBLE;
            }
            cart.addDamage(by);
            return cart.damage;
        }

        /** Puts a cart on a cell, or out, if the cell is off the board or a pit. */
        void enter(Cart cart, int cell) {
            if (cell < 0 || cell >= CELLS || board.kinds[cell] == PIT) {
                cart.cell = NONE;
                cart.timesOut++;
            } else {
                cart.cell = cell;
            }
        }

        void turnOnGears() {
            for (int n = 0; n < cartCount; n++) {
                Cart cart = carts[n];
                int kind = board.kindOn(cart.cell);
                if (kind == GEAR_LEFT) {
                    cart.direction = turned(cart.direction, QUARTER_LEFT);
                } else if (kind == GEAR_RIGHT) {
                    cart.direction = turned(cart.direction, QUARTER_RIGHT);
                }
            }
        }

        void touchFlags() {
            for (int n = 0; n < cartCount; n++) {
                Cart cart = carts[n];
                if (cart.touched < board.flagCount && board.flags[cart.touched] == cart.cell) {
                    cart.touched++;
                    if (winner == NONE && cart.touched == board.flagCount) {
                        winner = n;
                    }
                }
            }
        }

        void countPhase() {
            phasesDone++;
            nextPhase++;
            if (nextPhase == REGISTERS) {
                nextPhase = 0;
                rounds++;
            }
        }

        void repairAndClear() {
            for (int n = 0; n < cartCount; n++) {
                Cart cart = carts[n];
                if (board.kindOn(cart.cell) == REPAIR) {
                    cart.addDamage(-1);
                }
                cart.emptyRegisters(cart.unlockedRegisters());
            }
        }

        void bringBack() {
            for (int n = 0; n < cartCount; n++) {
                Cart cart = carts[n];
                if (cart.isOut()) {
                    cart.cell = cellToComeBack(cart.start);
                    cart.direction = 0;
                    cart.damage = RETURN_DAMAGE;
                    cart.emptyRegisters(REGISTERS);
                }
            }
        }

        /** The start if it is free, otherwise the lowest free cell, NONE if there is none. */
        private int cellToComeBack(int start) {
            if (!board.isPit(start) && cartOn(start) == NONE) {
                return start;
            }
            for (int cell = 0; cell < CELLS; cell++) {
                if (!board.isPit(cell) && cartOn(cell) == NONE) {
                    return cell;
                }
            }
            return NONE;
        }
    }

    /** The latest states, the oldest one first. */
    private static final class History {
        private final Race[] states = {new Race(), new Race(), new Race(), new Race()};
        int size;

        void add(Race race) {
            if (size == MAX_STATES) {
                dropOldest();
            }
            states[size].copyFrom(race);
            size++;
        }

        void restore(Race race) {
            if (size > 0) {
                size--;
                race.copyFrom(states[size]);
            }
        }

        /** The oldest one's object goes behind the others, to be written over. */
        private void dropOldest() {
            Race oldest = states[0];
            for (int i = 1; i < MAX_STATES; i++) {
                states[i - 1] = states[i];
            }
            states[MAX_STATES - 1] = oldest;
            size = MAX_STATES - 1;
        }
    }

    /** Does phases: cards, belts, gears, flags, and the end of the round. */
    private static final class PhaseRunner {
        private final Cards cards = new Cards();
        private final Belts belts = new Belts();

        /** Answers how many carts went out. */
        int runNext(Race race) {
            if (race.cartCount == 0) {
                return NOT_POSSIBLE;
            }
            int timesOut = race.timesOut();
            int inTurn = cards.arrange(race);
            for (int place = 0; place < inTurn; place++) {
                cards.follow(race, cards.order[place]);
            }
            belts.carry(race);
            race.turnOnGears();
            race.touchFlags();
            race.countPhase();
            if (race.nextPhase == 0) {
                race.repairAndClear();
                race.bringBack();
            }
            return race.timesOut() - timesOut;
        }

        int runToRoundEnd(Race race) {
            if (race.cartCount == 0) {
                return NOT_POSSIBLE;
            }
            int wentOut = 0;
            for (int phase = race.nextPhase; phase < REGISTERS; phase++) {
                wentOut += runNext(race);
            }
            return wentOut;
        }

        int cartInTurn(Race race, int place) {
            return place < cards.arrange(race) ? cards.order[place] : NOT_FOUND;
        }
    }

    /** The cards of a phase, and the steps and turns that they make. */
    private static final class Cards {
        final int[] order = new int[MAX_CARTS];
        /** The stepping cart and those that it pushes, each ahead of the one before. */
        private final int[] chain = new int[MAX_CARTS];

        /** Sets the order of the carts whose cards come in the next phase, and answers how many they are. */
        int arrange(Race race) {
            int inTurn = 0;
            for (int n = 0; n < race.cartCount; n++) {
                Cart cart = race.carts[n];
                if (!cart.isOut() && cart.hasCard(race.nextPhase)) {
                    insert(race, n, inTurn);
                    inTurn++;
                }
            }
            return inTurn;
        }

        /** Carts are inserted by their numbers, so that of equal ranks the lowest cart stays ahead. */
        private void insert(Race race, int n, int inTurn) {
            int register = race.nextPhase;
            int rank = race.carts[n].ranks[register];
            int place = inTurn;
            while (place > 0 && race.carts[order[place - 1]].ranks[register] < rank) {
                order[place] = order[place - 1];
                place--;
            }
            order[place] = n;
        }

        void follow(Race race, int n) {
            Cart cart = race.carts[n];
            // A cart that was pushed out ahead of its card does nothing any more.
            if (cart.isOut()) {
                return;
            }
            int move = cart.moves[race.nextPhase];
            int heading = cart.direction;
            int steps = 0;
            switch (move) {
                case TURN_LEFT:
                    cart.direction = turned(cart.direction, QUARTER_LEFT);
                    break;
                case TURN_RIGHT:
                    cart.direction = turned(cart.direction, QUARTER_RIGHT);
                    break;
                case TURN_ABOUT:
                    cart.direction = turned(cart.direction, HALF);
                    break;
                case STEP_BACK:
                    heading = turned(cart.direction, HALF);
                    steps = 1;
                    break;
                default:
                    steps = move + 1;
                    break;
            }
            boolean stopped = false;
            for (int i = 0; i < steps && !stopped && !cart.isOut(); i++) {
                stopped = !step(race, n, heading);
            }
            if (stopped) {
                cart.bump();
            }
        }

        /** Steps a cart that is not out and all that it pushes; false if it is stopped. */
        private boolean step(Race race, int n, int direction) {
            int length = 0;
            int next = n;
            while (next != NONE && length < MAX_CARTS) {
                int cell = race.carts[next].cell;
                if (race.board.hasWall(cell, direction)) {
                    return false;
                }
                chain[length] = next;
                length++;
                next = race.cartOn(Board.neighbour(cell, direction));
            }
            for (int i = 0; i < length; i++) {
                Cart cart = race.carts[chain[i]];
                race.enter(cart, Board.neighbour(cart.cell, direction));
            }
            race.pushes += length - 1;
            return true;
        }
    }

    /** Carries the carts on belts, all at once. */
    private static final class Belts {
        private final boolean[] onBelt = new boolean[MAX_CARTS];
        /** The cell to which each cart on a belt wants, NONE if off the board. */
        private final int[] wanted = new int[MAX_CARTS];
        private final boolean[] carried = new boolean[MAX_CARTS];

        void carry(Race race) {
            askAll(race);
            for (int n = 0; n < race.cartCount; n++) {
                if (carried[n] && isHindered(race, n)) {
                    carried[n] = false;
                }
            }
            // Each pass finds the carts behind those that an earlier pass has found not to be carried.
            for (int pass = 0; pass < race.cartCount; pass++) {
                for (int n = 0; n < race.cartCount; n++) {
                    if (carried[n] && isBlocked(race, n)) {
                        carried[n] = false;
                    }
                }
            }
            for (int n = 0; n < race.cartCount; n++) {
                if (carried[n]) {
                    race.enter(race.carts[n], wanted[n]);
                }
            }
        }

        /** Notes what each cart wants; so far only walls keep one from being carried. */
        private void askAll(Race race) {
            for (int n = 0; n < race.cartCount; n++) {
                int cell = race.carts[n].cell;
                int kind = race.board.kindOn(cell);
                int direction = kind - FIRST_BELT;
                onBelt[n] = kind >= FIRST_BELT && kind <= LAST_BELT;
                wanted[n] = onBelt[n] ? Board.neighbour(cell, direction) : NONE;
                carried[n] = onBelt[n] && !race.board.hasWall(cell, direction);
            }
        }

        /** Whether another one on a belt wants to the same cell, or they want to each other's cells. */
        private boolean isHindered(Race race, int n) {
            for (int other = 0; other < race.cartCount; other++) {
                if (other == n || !onBelt[other] || wanted[n] == NONE) {
                    continue;
                }
                boolean sameGoal = wanted[other] == wanted[n];
                boolean faceToFace = wanted[n] == race.carts[other].cell && wanted[other] == race.carts[n].cell;
                if (sameGoal || faceToFace) {
                    return true;
                }
            }
            return false;
        }

        /** Whether a cart that is not carried is on the cell to which this one wants. */
        private boolean isBlocked(Race race, int n) {
            int ahead = race.cartOn(wanted[n]);
            return ahead != NONE && !carried[ahead];
        }
    }

    /** Shortest ways over cells that are no pits. */
    private static final class Ways {
        private final int[] distances = new int[CELLS];
        private final int[] queue = new int[CELLS];
        private int queued;

        int shortest(Board board, int from, int to) {
            Arrays.fill(distances, NONE);
            queued = 0;
            reach(from, 0);
            for (int i = 0; i < CELLS && i < queued && distances[to] == NONE; i++) {
                reachAround(board, queue[i]);
            }
            return distances[to] == NONE ? NOT_FOUND : distances[to];
        }

        private void reachAround(Board board, int cell) {
            for (int direction = 0; direction < DIRECTIONS; direction++) {
                int next = Board.neighbour(cell, direction);
                if (next != NONE && !board.hasWall(cell, direction) && !board.isPit(next)) {
                    reach(next, distances[cell] + 1);
                }
            }
        }

        private void reach(int cell, int distance) {
            if (distances[cell] == NONE && queued < CELLS) {
                distances[cell] = distance;
                queue[queued] = cell;
                queued++;
            }
        }
    }

    /** The text, and the order in it that was read last. */
    private static final class OrderText {
        private static final int MAX_DIGITS = 3;
        private static final int MAX_NUMBERS = 4;

        private final char[] signs = new char[MAX_TEXT];
        int length;
        char letter;
        final int[] numbers = new int[MAX_NUMBERS];
        /** The position behind the order that was read, or at which it breaks off. */
        int end;

        int append(char sign) {
            if (length >= MAX_TEXT) {
                return LIMIT_REACHED;
            }
            signs[length] = sign;
            length++;
            return length;
        }

        /** Reads the order at a position; false if it is not of its form. */
        boolean read(int position) {
            end = position;
            letter = end < length ? signs[end] : ' ';
            int howMany = numbersBehind(letter);
            if (howMany == NONE) {
                return false;
            }
            end++;
            for (int i = 0; i < howMany; i++) {
                if (i > 0 && !take(',') || !takeNumber(i)) {
                    return false;
                }
            }
            return take(';');
        }

        private static int numbersBehind(char letter) {
            switch (letter) {
                case 'k':
                case 'w':
                case 'c':
                    return 2;
                case 'p':
                    return MAX_NUMBERS;
                case 'r':
                    return 0;
                default:
                    return NONE;
            }
        }

        private boolean take(char sign) {
            if (end >= length || signs[end] != sign) {
                return false;
            }
            end++;
            return true;
        }

        private boolean takeNumber(int place) {
            int number = 0;
            int digits = 0;
            while (digits < MAX_DIGITS && end < length && signs[end] >= '0' && signs[end] <= '9') {
                number = number * 10 + (signs[end] - '0');
                digits++;
                end++;
            }
            numbers[place] = number;
            return digits > 0;
        }
    }

    /** Does the orders of the text, and finds its fault. */
    private static final class OrderRunner {
        private static final int NO_FAULT = 0;
        private static final int BAD_FORM = 1;
        private static final int REFUSED = 2;

        private final OrderText text;
        private final PhaseRunner runner;
        /** How many orders were done, and where the one behind them begins. */
        int done;
        int position;
        int reason;
        int cause;

        OrderRunner(OrderText text, PhaseRunner runner) {
            this.text = text;
            this.runner = runner;
        }

        boolean isFaulty() {
            return reason != NO_FAULT;
        }

        /** Does the orders one after the other, up to the first that is not possible. */
        void doAll(Race race) {
            done = 0;
            position = 0;
            reason = NO_FAULT;
            cause = 0;
            // Every order takes a character at least, so that there are at most MAX_TEXT.
            for (int i = 0; i < MAX_TEXT && position < text.length && !isFaulty(); i++) {
                boolean formed = text.read(position);
                int answer = formed ? obey(race, text.numbers) : 0;
                if (!formed) {
                    reason = BAD_FORM;
                    cause = text.end - position;
                } else if (isError(answer)) {
                    reason = REFUSED;
                    cause = answer;
                } else {
                    position = text.end;
                    done++;
                }
            }
        }

        private int obey(Race race, int[] numbers) {
            switch (text.letter) {
                case 'k':
                    return race.setKind(numbers[0], numbers[1]);
                case 'w':
                    return race.flipWall(numbers[0], numbers[1]);
                case 'c':
                    return race.addCart(numbers[0], numbers[1]);
                case 'p':
                    return race.layCard(numbers[0], numbers[1], numbers[2], numbers[3]);
                default:
                    return runner.runNext(race);
            }
        }
    }
}
