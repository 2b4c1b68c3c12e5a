/** A room of buyers and sellers with cards: its lines, its rounds, what onlookers know, two rooms. */
public final class ShoutedPrices {
    public static final int BAD = -1, NO = -2, FULL = -3, NONE = -4;

    private static final int BAD_BELL = -1000, BAD_ROUND = -10000;
    private static final int MOST_BYTES = 300, MOST_A_SIDE = 10, MOST_PEOPLE = 20, MOST_STEPS = 200;
    private static final int TOP_CARD = 99, TOP_NEAR = 50, TOP_TAX = 50, TOP_CARRY = 99, TOP_Z = 9999;
    private static final int BLIND = 0, NEAR = 1, PATIENT = 2, FEARFUL = 3, HOLDER = 4, WRONG = 5;
    private static final int SHOUTS = 0, PAIRS = 1, POSTED = 2, BELL = 3;
    private static final int MOST_KEPT = 2, ROUNDS_A_MEAN = 10;

    private final Text text = new Text();
    private final Reader reader = new Reader();
    private Room room = new Room();
    private Room spare = new Room();
    private final Log log = new Log();
    private final Kept[] kept = new Kept[MOST_KEPT];
    private int keptSize = 0;
    private final Lines lines = new Lines();
    private final Lines others = new Lines();
    private final Round round = new Round();
    private final Carriers carriers = new Carriers();
    private final int[][] sums = new int[BELL + 1][3];

    public ShoutedPrices() {
        for (int i = 0; i < MOST_KEPT; i++) {
            kept[i] = new Kept();
        }
        room.addPerson(false, 9, BLIND);
        room.addPerson(true, 1, BLIND);
    }

    // ---- rooms

    public int write(int n, long v) {
        if (!within(n, 1, 8)) {
            return BAD;
        }
        if (text.size + n > MOST_BYTES) {
            return FULL;
        }
        for (int i = n - 1; i >= 0; i--) {
            text.add((int) (v >>> (8 * i)) & 255);
        }
        return text.size;
    }

    public int wipe() {
        int was = text.size;
        text.size = 0;
        return was;
    }

    public int fault() {
        return reader.read(text, spare);
    }

    public int lay() {
        if (reader.read(text, spare) != NONE || spare.buyers == 0 || spare.sellers == 0) {
            return NO;
        }
        Room laid = spare;
        spare = room;
        room = laid;
        log.size = 0;
        keptSize = 0;
        return room.people;
    }

    public int person(int p, int what) {
        if (!room.has(p) || !within(what, 0, 2)) {
            return BAD;
        }
        if (what == 0) {
            return room.sells[p] ? 1 : 0;
        }
        return what == 1 ? room.card[p] : room.law[p];
    }

    public int law(int p, int l) {
        if (!room.has(p) || !within(l, BLIND, WRONG)) {
            return BAD;
        }
        int was = room.law[p];
        room.law[p] = l;
        return was;
    }

    // ---- lines

    public int lines(int what) {
        if (!within(what, 0, 4)) {
            return BAD;
        }
        lines.meet(room, room.tax);
        if (what == 0) {
            return lines.quantity;
        }
        if (what == 1) {
            return lines.most;
        }
        if (lines.quantity == 0) {
            return NONE;
        }
        if (what == 4) {
            others.meet(room, 0);
            return others.quantity == 0 ? NONE : lines.lowest - others.lowest;
        }
        return what == 2 ? lines.lowest : lines.highest;
    }

    public int served(int what) {
        if (!within(what, 0, 3)) {
            return BAD;
        }
        lines.meet(room, room.tax);
        int trades = lines.quantity, most = lines.most, least = lines.most;
        if (lines.quantity > 0 && room.lid < lines.lowest) {
            int willing = lines.buyers.ahead(room.lid);
            int able = lines.sellers.ahead(room.lid - room.tax);
            trades = Math.min(willing, able);
            most = lines.buyers.sum(0, trades) - lines.sellers.sum(0, trades);
            least = lines.buyers.sum(willing - trades, willing) - lines.sellers.sum(able - trades, able);
        }
        if (what == 0) {
            return trades;
        }
        if (what == 1) {
            return most;
        }
        return what == 2 ? least : lines.most - least;
    }

    public long pairs(int part) {
        if (!within(part, 0, 1)) {
            return BAD;
        }
        int above = gainOfAllMeetings();
        int below = Math.max(room.buyers, room.sellers);
        int common = 1;
        for (int d = 2; d <= below; d++) {
            if (above % d == 0 && below % d == 0) {
                common = d;
            }
        }
        return part == 0 ? above / common : below / common;
    }

    public int bell(int p, int v) {
        if (!room.has(p) || !within(v, 0, TOP_CARD)) {
            return BAD_BELL;
        }
        return gainOfTelling(p, v);
    }

    public int best(int p, int what) {
        if (!room.has(p) || !within(what, 0, 1)) {
            return BAD;
        }
        int card = room.card[p];
        int best = card;
        int most = gainOfTelling(p, card);
        for (int v = 0; v <= TOP_CARD; v++) {
            int gain = gainOfTelling(p, v);
            boolean nearer = Math.abs(v - card) < Math.abs(best - card);
            if (gain > most || gain == most && nearer) {
                best = v;
                most = gain;
            }
        }
        return what == 0 ? best : most;
    }

    // ---- rounds

    public int round(int rule, int z, int what) {
        if (!within(rule, SHOUTS, BELL) || !within(z, 0, TOP_Z) || !within(what, 0, 3)) {
            return BAD_ROUND;
        }
        round.play(room, rule, z, log);
        if (what == 0) {
            return round.traded;
        }
        if (what == 1) {
            return round.gain;
        }
        return what == 2 ? round.soon : round.wanders();
    }

    public int of(int rule, int z, int p) {
        if (!within(rule, SHOUTS, BELL) || !within(z, 0, TOP_Z) || !room.has(p)) {
            return BAD;
        }
        round.play(room, rule, z, log);
        return round.price[p];
    }

    public int means(int rule, int z, int what) {
        if (!within(rule, SHOUTS, BELL) || !within(z, 0, TOP_Z) || !within(what, 0, 2)) {
            return BAD_ROUND;
        }
        sumUp(rule, z);
        return sums[rule][what];
    }

    public int rules(int z, int what) {
        if (!within(z, 0, TOP_Z) || !within(what, 0, 3)) {
            return BAD;
        }
        for (int rule = SHOUTS; rule <= BELL; rule++) {
            sumUp(rule, z);
        }
        if (what < 3) {
            return bestBy(what);
        }
        int best = bestBy(0);
        return best == bestBy(1) && best == bestBy(2) ? best : NONE;
    }

    // ---- onlookers

    public int shout(int i, int what) {
        if (!within(i, 0, log.size - 1) || !within(what, 0, 3)) {
            return BAD;
        }
        if (what == 0) {
            return log.person[i];
        }
        if (what == 1) {
            return log.price[i];
        }
        return what == 2 ? log.step[i] : log.last[i];
    }

    public int known(int p) {
        return room.has(p) ? log.seenOf(room, p) : BAD;
    }

    public int least(int what) {
        if (!within(what, 0, 1)) {
            return BAD;
        }
        lines.empty();
        for (int p = 0; p < room.people; p++) {
            lines.put(room, p, log.seenOf(room, p));
        }
        lines.cross(room.tax);
        return what == 0 ? lines.quantity : lines.most;
    }

    public int laws(int p) {
        if (!room.has(p)) {
            return BAD;
        }
        int bits = 0;
        for (int l = BLIND; l <= WRONG; l++) {
            if (log.mayBeBy(room, p, l)) {
                bits |= 1 << l;
            }
        }
        return bits;
    }

    // ---- two rooms

    public int two(int other, int k, int what) {
        if (!within(other, 0, (1 << room.people) - 1) || !within(k, 0, TOP_CARRY) || !within(what, 0, 1)) {
            return BAD_ROUND;
        }
        lines.empty();
        others.empty();
        for (int p = 0; p < room.people; p++) {
            Lines where = (other >> p & 1) == 1 ? others : lines;
            where.put(room, p, room.card[p]);
        }
        carriers.choose(lines, others, k);
        return what == 0 ? carriers.gain : carriers.carried;
    }

    public int keep() {
        if (keptSize >= MOST_KEPT) {
            return FULL;
        }
        kept[keptSize].hold(room, log);
        keptSize++;
        return keptSize;
    }

    public int back() {
        if (keptSize < 1) {
            return NO;
        }
        keptSize--;
        kept[keptSize].giveBack(room, log);
        return keptSize;
    }

    public int count(int what) {
        switch (what) {
            case 0: return room.people;
            case 1: return room.buyers;
            case 2: return room.sellers;
            case 3: return text.size;
            case 4: return log.size;
            case 5: return keptSize;
            case 6: return room.steps;
            default: return BAD;
        }
    }

    // ---- what several of these ask

    private static boolean within(int number, int lowest, int highest) {
        return number >= lowest && number <= highest;
    }

    /** The gains of every BUYER with every SELLER; each two meet in one of as many ways as the greater side has. */
    private int gainOfAllMeetings() {
        int gain = 0;
        for (int b = 0; b < room.buyers; b++) {
            for (int s = 0; s < room.sellers; s++) {
                int worth = room.card[room.buyer[b]], cost = room.card[room.seller[s]];
                if (worth >= cost + room.tax) {
                    gain += worth - cost;
                }
            }
        }
        return gain;
    }

    /** BELL: what the PERSON gets by its true CARD if it tells another one and all others the true ones. */
    private int gainOfTelling(int person, int told) {
        lines.empty();
        for (int p = 0; p < room.people; p++) {
            lines.put(room, p, p == person ? told : room.card[p]);
        }
        lines.cross(room.tax);
        if (!lines.trades(room.sells[person], person)) {
            return 0;
        }
        int card = room.card[person];
        return room.sells[person] ? lines.lowest - room.tax - card : card - lines.lowest;
    }

    private void sumUp(int rule, int z) {
        int[] sum = sums[rule];
        sum[0] = 0;
        sum[1] = 0;
        sum[2] = 0;
        for (int i = 0; i < ROUNDS_A_MEAN; i++) {
            round.play(room, rule, (z + i) % (TOP_Z + 1), null);
            sum[0] += round.gain;
            sum[1] += round.soon;
            sum[2] += round.wanders();
        }
    }

    private int bestBy(int what) {
        int best = SHOUTS;
        for (int rule = PAIRS; rule <= BELL; rule++) {
            int more = sums[rule][what] - sums[best][what];
            if (what == 0 ? more > 0 : more < 0) {
                best = rule;
            }
        }
        return best;
    }

    /** THE TEXT. */
    private static final class Text {
        final int[] bytes = new int[MOST_BYTES];
        int size = 0;

        void add(int sign) {
            if (size < MOST_BYTES) {
                bytes[size] = sign;
                size++;
            }
        }
    }

    /** Reads THE TEXT into a room, item by item. */
    private static final class Reader {
        private static final int MOST_FIGURES = 3, MOST_NUMBERS = 2;

        final int[] number = new int[MOST_NUMBERS];
        int numbers = 0;
        int behind = 0;

        /** The FAULT; NONE if the room is told by all of THE TEXT. */
        int read(Text text, Room room) {
            room.empty();
            int place = 0;
            for (int items = 0; items < MOST_BYTES && place < text.size; items++) {
                if (!split(text, place) || !take(text.bytes[place], room)) {
                    return place;
                }
                place = behind;
            }
            return NONE;
        }

        /** Finds the numbers of the item at a place, and the place behind it; false if its form is not so. */
        boolean split(Text text, int place) {
            numbers = 0;
            int figures = 0, value = 0;
            for (int at = place + 1; at < text.size; at++) {
                int sign = text.bytes[at];
                if (sign >= '0' && sign <= '9' && figures < MOST_FIGURES) {
                    value = 10 * value + sign - '0';
                    figures++;
                } else if ((sign == ',' || sign == ';') && figures > 0 && numbers < MOST_NUMBERS) {
                    number[numbers] = value;
                    numbers++;
                    if (sign == ';') {
                        behind = at + 1;
                        return true;
                    }
                    figures = 0;
                    value = 0;
                } else {
                    return false;
                }
            }
            return false;
        }

        boolean take(int letter, Room room) {
            if (letter == 'v' || letter == 'c') {
                return numbers == 2 && room.addPerson(letter == 'c', number[0], number[1]);
            }
            return numbers == 1 && room.set(letter, number[0]);
        }
    }

    /** PEOPLE with their CARDS and LAWS, and what holds for all of them. */
    private static final class Room {
        final boolean[] sells = new boolean[MOST_PEOPLE];
        final int[] card = new int[MOST_PEOPLE];
        final int[] law = new int[MOST_PEOPLE];
        final int[] buyer = new int[MOST_A_SIDE];
        final int[] seller = new int[MOST_A_SIDE];
        int people, buyers, sellers;
        int steps, tax, lid, near, hold;

        Room() {
            empty();
        }

        void empty() {
            people = 0;
            buyers = 0;
            sellers = 0;
            steps = 60;
            tax = 0;
            lid = TOP_CARD;
            near = 5;
            hold = 50;
        }

        boolean has(int person) {
            return person >= 0 && person < people;
        }

        boolean addPerson(boolean isSeller, int itsCard, int itsLaw) {
            int alike = isSeller ? sellers : buyers;
            if (alike >= MOST_A_SIDE || !within(itsCard, 0, TOP_CARD) || !within(itsLaw, BLIND, WRONG)) {
                return false;
            }
            if (isSeller) {
                seller[sellers] = people;
                sellers++;
            } else {
                buyer[buyers] = people;
                buyers++;
            }
            sells[people] = isSeller;
            card[people] = itsCard;
            law[people] = itsLaw;
            people++;
            return true;
        }

        boolean set(int letter, int value) {
            switch (letter) {
                case 'n':
                    steps = value;
                    return within(value, 1, MOST_STEPS);
                case 't':
                    tax = value;
                    return within(value, 0, TOP_TAX);
                case 'l':
                    lid = value;
                    return within(value, 0, TOP_CARD);
                case 'x':
                    near = value;
                    return within(value, 0, TOP_NEAR);
                case 'h':
                    hold = value;
                    return within(value, 0, TOP_CARD);
                default:
                    return false;
            }
        }
    }

    /** WORTHS falling, or COSTS rising, with whose they are; of like ones the lower PERSON comes first. */
    private static final class Line {
        final boolean rising;
        final int[] whose = new int[MOST_A_SIDE];
        final int[] card = new int[MOST_A_SIDE];
        int size = 0;

        Line(boolean rising) {
            this.rising = rising;
        }

        /** PEOPLE must be put in the order of their numbers, so that like CARDS stay in it. */
        void add(int person, int itsCard) {
            if (size >= MOST_A_SIDE) {
                return;
            }
            int at = size;
            while (at > 0 && (rising ? card[at - 1] > itsCard : card[at - 1] < itsCard)) {
                card[at] = card[at - 1];
                whose[at] = whose[at - 1];
                at--;
            }
            card[at] = itsCard;
            whose[at] = person;
            size++;
        }

        /** How many are as good as a price: WORTHS no less, COSTS no more. */
        int ahead(int price) {
            int so = 0;
            for (int i = 0; i < size; i++) {
                if (rising ? card[i] <= price : card[i] >= price) {
                    so++;
                }
            }
            return so;
        }

        int sum(int from, int to) {
            int sum = 0;
            for (int i = Math.max(from, 0); i < to && i < size; i++) {
                sum += card[i];
            }
            return sum;
        }

        boolean holds(int person, int first) {
            for (int i = 0; i < first && i < size; i++) {
                if (whose[i] == person) {
                    return true;
                }
            }
            return false;
        }
    }

    /** The two lines of CARDS, and where they cross. */
    private static final class Lines {
        final Line buyers = new Line(false);
        final Line sellers = new Line(true);
        int quantity, most, lowest, highest;

        void empty() {
            buyers.size = 0;
            sellers.size = 0;
        }

        void put(Room room, int person, int card) {
            if (room.sells[person]) {
                sellers.add(person, card);
            } else {
                buyers.add(person, card);
            }
        }

        /** The lines of all true CARDS. */
        void meet(Room room, int tax) {
            empty();
            for (int p = 0; p < room.people; p++) {
                put(room, p, room.card[p]);
            }
            cross(tax);
        }

        void cross(int tax) {
            int both = Math.min(buyers.size, sellers.size);
            quantity = 0;
            while (quantity < both && buyers.card[quantity] >= sellers.card[quantity] + tax) {
                quantity++;
            }
            most = buyers.sum(0, quantity) - sellers.sum(0, quantity);
            lowest = NONE;
            highest = NONE;
            if (quantity > 0) {
                price(tax);
            }
        }

        private void price(int tax) {
            lowest = sellers.card[quantity - 1] + tax;
            highest = buyers.card[quantity - 1];
            if (quantity < buyers.size) {
                lowest = Math.max(lowest, buyers.card[quantity]);
            }
            if (quantity < sellers.size) {
                highest = Math.min(highest, sellers.card[quantity] + tax);
            }
        }

        boolean trades(boolean asSeller, int person) {
            return asSeller ? sellers.holds(person, quantity) : buyers.holds(person, quantity);
        }
    }

    /** What a PERSON bids or offers by a LAW. */
    private static final class Voice {
        /** Draws count modulo this. */
        static int span(Room room, int person, int law, int last) {
            if (law == WRONG) {
                return 100;
            }
            if (last != NONE && (law == NEAR || law == FEARFUL)) {
                return 2 * room.near + 1;
            }
            return room.sells[person] ? 100 - room.card[person] : room.card[person] + 1;
        }

        /** By a rest of a draw; a higher rest never makes less, and one more makes one more at the most. */
        static int by(Room room, int person, int law, int step, int last, int rest) {
            boolean sells = room.sells[person];
            int card = room.card[person];
            int blind = sells ? card + rest : rest;
            if (law == FEARFUL && 4 * step >= 3 * room.steps) {
                return card;
            }
            switch (law) {
                case NEAR:
                case FEARFUL:
                    return last == NONE ? blind : near(room, person, last, rest);
                case PATIENT:
                    return sells ? TOP_CARD - share(room, TOP_CARD - card, step) : share(room, card, step);
                case HOLDER:
                    return sells ? Math.max(blind, room.hold) : Math.min(blind, room.hold);
                case WRONG:
                    return rest;
                default:
                    return blind;
            }
        }

        private static int near(Room room, int person, int last, int rest) {
            int price = Math.min(Math.max(last - room.near + rest, 0), TOP_CARD);
            int card = room.card[person];
            return room.sells[person] ? Math.max(price, card) : Math.min(price, card);
        }

        private static int share(Room room, int whole, int step) {
            return room.steps > 0 ? whole * (step + 1) / room.steps : whole;
        }

        /** A BUYER bids the LID where it would bid more. */
        static int underLid(Room room, int person, int price) {
            return room.sells[person] ? price : Math.min(price, room.lid);
        }

        /** A SELLER offers nothing that is above the LID with the TAX. */
        static boolean isHeard(Room room, int person, int price) {
            return !room.sells[person] || price + room.tax <= room.lid;
        }
    }

    /** A ROUND by a RULE. */
    private static final class Round {
        private static final int PRIME = 65521;

        /** At which a PERSON traded. */
        final int[] price = new int[MOST_PEOPLE];
        final int[] posted = new int[MOST_PEOPLE];
        final Lines told = new Lines();
        int z, last, lowest, highest;
        int traded, gain, soon;
        /** Whose the STANDING bid and offer are. */
        int bidder, asker;
        int bid, offer;

        /** The log takes the shouts of RULE 0; there may be none. */
        void play(Room room, int rule, int itsZ, Log log) {
            z = itsZ;
            last = NONE;
            lowest = 0;
            highest = 0;
            traded = 0;
            gain = 0;
            soon = 0;
            for (int p = 0; p < MOST_PEOPLE; p++) {
                price[p] = NONE;
            }
            if (rule == SHOUTS) {
                playShouts(room, log);
            } else if (rule == PAIRS) {
                playPairs(room);
            } else if (rule == POSTED) {
                playPosted(room);
            } else {
                playBell(room);
            }
        }

        int wanders() {
            return highest - lowest;
        }

        private int draw(int t, int k) {
            long x = 7919L * z + 6151L * t + 3571L * k + 1;
            return (int) (x * x % PRIME);
        }

        private static int rest(int draw, int by) {
            return by > 0 ? draw % by : 0;
        }

        private int tells(Room room, int person, int step, int draw) {
            int law = room.law[person];
            int rest = rest(draw, Voice.span(room, person, law, last));
            return Voice.underLid(room, person, Voice.by(room, person, law, step, last, rest));
        }

        private void trade(Room room, int buyer, int seller, int at, int step) {
            price[buyer] = at;
            price[seller] = at;
            lowest = traded == 0 ? at : Math.min(lowest, at);
            highest = traded == 0 ? at : Math.max(highest, at);
            traded++;
            gain += room.card[buyer] - room.card[seller];
            soon = step + 1;
            last = at;
        }

        private void playShouts(Room room, Log log) {
            if (log != null) {
                log.size = 0;
            }
            bidder = NONE;
            asker = NONE;
            for (int t = 0; t < room.steps; t++) {
                int person = rest(draw(t, 0), room.people);
                if (price[person] != NONE) {
                    continue;
                }
                int shouted = tells(room, person, t, draw(t, 1));
                if (!Voice.isHeard(room, person, shouted)) {
                    continue;
                }
                if (log != null) {
                    log.add(person, shouted, t, last);
                }
                if (room.sells[person]) {
                    hearOffer(room, person, shouted, t);
                } else {
                    hearBid(room, person, shouted, t);
                }
            }
        }

        private void hearBid(Room room, int person, int shouted, int step) {
            if (asker != NONE && shouted >= offer + room.tax) {
                trade(room, person, asker, offer + room.tax, step);
                bidder = NONE;
                asker = NONE;
            } else if (bidder == NONE || shouted > bid) {
                bidder = person;
                bid = shouted;
            }
        }

        private void hearOffer(Room room, int person, int shouted, int step) {
            if (bidder != NONE && shouted + room.tax <= bid) {
                trade(room, bidder, person, bid, step);
                bidder = NONE;
                asker = NONE;
            } else if (asker == NONE || shouted < offer) {
                asker = person;
                offer = shouted;
            }
        }

        private void playPairs(Room room) {
            for (int t = 0; t < room.steps; t++) {
                int buyer = room.buyer[rest(draw(t, 0), room.buyers)];
                int seller = room.seller[rest(draw(t, 2), room.sellers)];
                if (price[buyer] != NONE || price[seller] != NONE) {
                    continue;
                }
                int bids = tells(room, buyer, t, draw(t, 1));
                int offers = tells(room, seller, t, draw(t, 3));
                if (Voice.isHeard(room, seller, offers) && bids >= offers + room.tax) {
                    trade(room, buyer, seller, offers + room.tax, t);
                }
            }
        }

        private void playPosted(Room room) {
            for (int s = 0; s < room.sellers; s++) {
                int seller = room.seller[s];
                posted[seller] = tells(room, seller, 0, draw(seller, 1));
            }
            for (int t = 0; t < room.steps; t++) {
                int buyer = room.buyer[rest(draw(t, 0), room.buyers)];
                if (price[buyer] != NONE) {
                    continue;
                }
                int seller = cheapestLeft(room);
                if (seller != NONE && posted[seller] + room.tax <= room.card[buyer]) {
                    trade(room, buyer, seller, posted[seller] + room.tax, t);
                }
            }
        }

        private int cheapestLeft(Room room) {
            int cheapest = NONE;
            for (int s = 0; s < room.sellers; s++) {
                int seller = room.seller[s];
                boolean left = price[seller] == NONE && Voice.isHeard(room, seller, posted[seller]);
                if (left && (cheapest == NONE || posted[seller] < posted[cheapest])) {
                    cheapest = seller;
                }
            }
            return cheapest;
        }

        private void playBell(Room room) {
            told.empty();
            for (int p = 0; p < room.people; p++) {
                int itsCard = tells(room, p, room.steps - 1, draw(p, 1));
                if (Voice.isHeard(room, p, itsCard)) {
                    told.put(room, p, itsCard);
                }
            }
            told.cross(room.tax);
            for (int i = 0; i < told.quantity; i++) {
                trade(room, told.buyers.whose[i], told.sellers.whose[i], told.lowest, 0);
            }
        }
    }

    /** The shouts of the last ROUND by RULE 0. */
    private static final class Log {
        final int[] person = new int[MOST_STEPS];
        final int[] price = new int[MOST_STEPS];
        final int[] step = new int[MOST_STEPS];
        final int[] last = new int[MOST_STEPS];
        int size = 0;

        void add(int who, int what, int when, int lastThen) {
            if (size < MOST_STEPS) {
                person[size] = who;
                price[size] = what;
                step[size] = when;
                last[size] = lastThen;
                size++;
            }
        }

        void copy(Log from) {
            System.arraycopy(from.person, 0, person, 0, from.size);
            System.arraycopy(from.price, 0, price, 0, from.size);
            System.arraycopy(from.step, 0, step, 0, from.size);
            System.arraycopy(from.last, 0, last, 0, from.size);
            size = from.size;
        }

        /** KNOWN: what a BUYER's WORTH is at the least, a SELLER's COST at the most. */
        int seenOf(Room room, int who) {
            boolean sells = room.sells[who];
            int seen = sells ? TOP_CARD : 0;
            for (int i = 0; i < size; i++) {
                if (person[i] == who) {
                    seen = sells ? Math.min(seen, price[i]) : Math.max(seen, price[i]);
                }
            }
            return seen;
        }

        /** The lowest and the highest rest of a draw are enough: all that lies between comes by some other. */
        boolean mayBeBy(Room room, int who, int law) {
            for (int i = 0; i < size; i++) {
                if (person[i] != who) {
                    continue;
                }
                int top = Voice.span(room, who, law, last[i]) - 1;
                int least = Voice.by(room, who, law, step[i], last[i], 0);
                int most = Voice.by(room, who, law, step[i], last[i], top);
                if (!within(price[i], Voice.underLid(room, who, least), Voice.underLid(room, who, most))) {
                    return false;
                }
            }
            return true;
        }
    }

    /** LAWS and the LOG as they were. */
    private static final class Kept {
        final int[] law = new int[MOST_PEOPLE];
        final Log log = new Log();

        void hold(Room room, Log now) {
            System.arraycopy(room.law, 0, law, 0, MOST_PEOPLE);
            log.copy(now);
        }

        void giveBack(Room room, Log now) {
            System.arraycopy(law, 0, room.law, 0, MOST_PEOPLE);
            now.copy(log);
        }
    }

    /** TWO ROOMS: who trades at the most gain, and how many are carried. */
    private static final class Carriers {
        int gain, carried;

        void choose(Lines first, Lines other, int cost) {
            gain = 0;
            carried = 0;
            for (int b = 0; b <= first.buyers.size; b++) {
                for (int s = 0; s <= first.sellers.size; s++) {
                    for (int far = 0; far <= other.buyers.size; far++) {
                        int farSells = b + far - s;
                        if (within(farSells, 0, other.sellers.size)) {
                            int worths = first.buyers.sum(0, b) + other.buyers.sum(0, far);
                            int costs = first.sellers.sum(0, s) + other.sellers.sum(0, farSells);
                            offer(worths - costs - cost * Math.abs(s - b), s - b);
                        }
                    }
                }
            }
        }

        private void offer(int itsGain, int over) {
            int fewer = Math.abs(carried) - Math.abs(over);
            if (itsGain > gain || itsGain == gain && (fewer > 0 || fewer == 0 && over > carried)) {
                gain = itsGain;
                carried = over;
            }
        }
    }
}
