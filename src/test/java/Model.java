import java.math.BigInteger;
import java.util.ArrayList;
import java.util.Comparator;
import java.util.List;
import java.util.Map;
import java.util.TreeMap;
import java.util.regex.Matcher;
import java.util.regex.Pattern;

/** The document told once more, with lists and by trying all there is, to stand beside the program. */
final class Model {
    static final int BAD = -1, NO = -2, FULL = -3, NONE = -4;

    record Person(int number, boolean buys, int card) { }

    record Shout(int person, int price, int step, Integer last) { }

    record Saved(List<Integer> laws, List<Shout> log) { }

    record Cross(int quantity, int most, Integer low, Integer high, List<Person> buyers, List<Person> sellers) { }

    /** What a round came to. */
    static final class Played {
        final Map<Integer, Integer> prices = new TreeMap<>();
        final List<Integer> inOrder = new ArrayList<>();
        final List<Shout> shouts = new ArrayList<>();
        int gain = 0;
        int soon = 0;

        Integer last() {
            return inOrder.isEmpty() ? null : inOrder.get(inOrder.size() - 1);
        }

        int wanders() {
            int high = inOrder.stream().mapToInt(p -> p).max().orElse(0);
            return high - inOrder.stream().mapToInt(p -> p).min().orElse(0);
        }

        void trade(Person buyer, Person seller, int price, int step) {
            prices.put(buyer.number, price);
            prices.put(seller.number, price);
            inOrder.add(price);
            gain += buyer.card - seller.card;
            soon = step + 1;
        }
    }

    String text = "";
    List<Person> people = List.of(new Person(0, true, 9), new Person(1, false, 1));
    List<Integer> laws = new ArrayList<>(List.of(0, 0));
    Map<Character, Integer> settings = settings();
    List<Shout> log = new ArrayList<>();
    List<Saved> saved = new ArrayList<>();

    private static Map<Character, Integer> settings() {
        return new TreeMap<>(Map.of('n', 60, 't', 0, 'l', 99, 'x', 5, 'h', 50));
    }

    private int set(char letter) {
        return settings.get(letter);
    }

    // rooms

    int write(int n, long v) {
        if (n < 1 || n > 8) {
            return BAD;
        }
        if (text.length() + n > 300) {
            return FULL;
        }
        byte[] eight = java.nio.ByteBuffer.allocate(8).putLong(v).array();
        text += new String(eight, 8 - n, n, java.nio.charset.StandardCharsets.ISO_8859_1);
        return text.length();
    }

    int wipe() {
        int was = text.length();
        text = "";
        return was;
    }

    private static final Pattern ITEM = Pattern.compile("([vc])([0-9]{1,3}),([0-9]{1,3});|([ntlxh])([0-9]{1,3});");

    int fault() {
        return read(new ArrayList<>(), new ArrayList<>(), settings());
    }

    private int read(List<Person> found, List<Integer> theirLaws, Map<Character, Integer> told) {
        Map<Character, Integer> top = Map.of('n', 200, 't', 50, 'l', 99, 'x', 50, 'h', 99);
        Matcher item = ITEM.matcher(text);
        int place = 0;
        while (place < text.length()) {
            item.region(place, text.length());
            if (!item.lookingAt()) {
                return place;
            }
            if (item.group(1) != null) {
                boolean buys = item.group(1).equals("v");
                int card = Integer.parseInt(item.group(2));
                int law = Integer.parseInt(item.group(3));
                long alike = found.stream().filter(p -> p.buys == buys).count();
                if (card > 99 || law > 5 || alike == 10) {
                    return place;
                }
                found.add(new Person(found.size(), buys, card));
                theirLaws.add(law);
            } else {
                char letter = item.group(4).charAt(0);
                int value = Integer.parseInt(item.group(5));
                if (value > top.get(letter) || letter == 'n' && value == 0) {
                    return place;
                }
                told.put(letter, value);
            }
            place = item.end();
        }
        return NONE;
    }

    int lay() {
        List<Person> found = new ArrayList<>();
        List<Integer> theirLaws = new ArrayList<>();
        Map<Character, Integer> told = settings();
        if (read(found, theirLaws, told) != NONE || all(found, true).isEmpty() || all(found, false).isEmpty()) {
            return NO;
        }
        people = found;
        laws = theirLaws;
        settings = told;
        log = new ArrayList<>();
        saved = new ArrayList<>();
        return people.size();
    }

    private static List<Person> all(List<Person> of, boolean buys) {
        return of.stream().filter(p -> p.buys == buys).toList();
    }

    private boolean lacks(int p) {
        return p < 0 || p >= people.size();
    }

    int person(int p, int what) {
        if (lacks(p) || what < 0 || what > 2) {
            return BAD;
        }
        return what == 0 ? people.get(p).buys ? 0 : 1 : what == 1 ? people.get(p).card : laws.get(p);
    }

    int law(int p, int l) {
        return lacks(p) || l < 0 || l > 5 ? BAD : laws.set(p, l);
    }

    // lines

    private static Cross cross(List<Person> told, int tax) {
        List<Person> buyers = all(told, true).stream().sorted(Comparator.comparingInt((Person p) -> -p.card)
            .thenComparingInt(p -> p.number)).toList();
        List<Person> sellers = all(told, false).stream().sorted(Comparator.comparingInt((Person p) -> p.card)
            .thenComparingInt(p -> p.number)).toList();
        int quantity = 0;
        for (int k = 1; k <= Math.min(buyers.size(), sellers.size()); k++) {
            if (buyers.get(k - 1).card >= sellers.get(k - 1).card + tax) {
                quantity = k;
            }
        }
        int most = 0;
        for (int i = 0; i < quantity; i++) {
            most += buyers.get(i).card - sellers.get(i).card;
        }
        if (quantity == 0) {
            return new Cross(0, 0, null, null, buyers, sellers);
        }
        int low = sellers.get(quantity - 1).card + tax, high = buyers.get(quantity - 1).card;
        if (buyers.size() > quantity) {
            low = Math.max(low, buyers.get(quantity).card);
        }
        if (sellers.size() > quantity) {
            high = Math.min(high, sellers.get(quantity).card + tax);
        }
        return new Cross(quantity, most, low, high, buyers, sellers);
    }

    private static int orNone(Integer number) {
        return number == null ? NONE : number;
    }

    int lines(int what) {
        Cross c = cross(people, set('t')), free = cross(people, 0);
        switch (what) {
            case 0: return c.quantity;
            case 1: return c.most;
            case 2: return orNone(c.low);
            case 3: return orNone(c.high);
            case 4: return c.low == null || free.low == null ? NONE : c.low - free.low;
            default: return BAD;
        }
    }

    int served(int what) {
        if (what < 0 || what > 3) {
            return BAD;
        }
        Cross c = cross(people, set('t'));
        int trades = c.quantity, most = c.most, least = c.most;
        if (c.quantity > 0 && set('l') < c.low) {
            List<Integer> worths = c.buyers.stream().map(p -> p.card).filter(w -> w >= set('l')).toList();
            List<Integer> costs = c.sellers.stream().map(p -> p.card).filter(k -> k + set('t') <= set('l')).toList();
            trades = Math.min(worths.size(), costs.size());
            most = 0;
            least = 0;
            for (int i = 0; i < trades; i++) {
                most += worths.get(i) - costs.get(i);
                least += worths.get(worths.size() - 1 - i) - costs.get(costs.size() - 1 - i);
            }
        }
        return new int[] {trades, most, least, c.most - least}[what];
    }

    /** All ways to meet are gone through, as long as they are few. */
    long pairs(int part) {
        if (part < 0 || part > 1) {
            return BAD;
        }
        List<Person> buyers = all(people, true), sellers = all(people, false);
        int greater = Math.max(buyers.size(), sellers.size());
        long above = 0, below = 0;
        if (greater <= 5) {
            long[] sum = new long[2];
            meet(buyers, sellers, greater, 0, new ArrayList<>(), sum);
            above = sum[0];
            below = sum[1];
        } else {
            for (Person b : buyers) {
                for (Person s : sellers) {
                    above += gainOf(b, s);
                }
            }
            below = greater;
        }
        long common = BigInteger.valueOf(above).gcd(BigInteger.valueOf(below)).longValue();
        return part == 0 ? above / common : below / common;
    }

    private int gainOf(Person buyer, Person seller) {
        return buyer.card >= seller.card + set('t') ? buyer.card - seller.card : 0;
    }

    /** Places are as many as the greater side; the n-th place of the one side meets a place of the other. */
    private void meet(List<Person> buyers, List<Person> sellers, int places, int gain, List<Integer> taken, long[] sum) {
        int place = taken.size();
        if (place == places) {
            sum[0] += gain;
            sum[1]++;
            return;
        }
        for (int s = 0; s < places; s++) {
            if (!taken.contains(s)) {
                boolean both = place < buyers.size() && s < sellers.size();
                taken.add(s);
                meet(buyers, sellers, places, gain + (both ? gainOf(buyers.get(place), sellers.get(s)) : 0), taken, sum);
                taken.remove(taken.size() - 1);
            }
        }
    }

    int bell(int p, int v) {
        if (lacks(p) || v < 0 || v > 99) {
            return -1000;
        }
        List<Person> told = new ArrayList<>(people);
        told.set(p, new Person(p, people.get(p).buys, v));
        Cross c = cross(told, set('t'));
        for (int i = 0; i < c.quantity; i++) {
            if (c.buyers.get(i).number == p) {
                return people.get(p).card - c.low;
            }
            if (c.sellers.get(i).number == p) {
                return c.low - set('t') - people.get(p).card;
            }
        }
        return 0;
    }

    int best(int p, int what) {
        if (lacks(p) || what < 0 || what > 1) {
            return BAD;
        }
        List<Integer> tells = new ArrayList<>();
        for (int v = 0; v <= 99; v++) {
            tells.add(v);
        }
        int card = people.get(p).card;
        int best = tells.stream().min(Comparator.comparingInt((Integer v) -> -bell(p, v))
            .thenComparingInt(v -> Math.abs(v - card)).thenComparingInt(v -> v)).orElseThrow();
        return what == 0 ? best : bell(p, best);
    }

    // rounds

    private static int draw(int z, int t, int k) {
        BigInteger x = BigInteger.valueOf(7919L * z + 6151L * t + 3571L * k + 1);
        return x.multiply(x).mod(BigInteger.valueOf(65521)).intValue();
    }

    /** What is told by a law and a draw; null where a seller offers nothing. */
    private Integer tell(Person who, int law, int step, Integer last, int draw) {
        int card = who.card, price;
        int blind = who.buys ? draw % (card + 1) : card + draw % (100 - card);
        int near = blind;
        if (last != null) {
            near = last - set('x') + draw % (2 * set('x') + 1);
            near = near < 0 ? 0 : near > 99 ? 99 : near;
            near = who.buys ? Math.min(near, card) : Math.max(near, card);
        }
        switch (law) {
            case 0: price = blind; break;
            case 1: price = near; break;
            case 2: price = who.buys ? card * (step + 1) / set('n') : 99 - (99 - card) * (step + 1) / set('n'); break;
            case 3: price = step >= set('n') * 3 / 4.0 ? card : near; break;
            case 4: price = who.buys ? Math.min(blind, set('h')) : Math.max(blind, set('h')); break;
            default: price = draw % 100;
        }
        if (who.buys) {
            return Math.min(price, set('l'));
        }
        return price + set('t') > set('l') ? null : price;
    }

    Played play(int rule, int z) {
        Played r = new Played();
        int n = set('n');
        List<Person> buyers = all(people, true), sellers = all(people, false);
        if (rule == 0) {
            shouts(r, z);
        } else if (rule == 1) {
            for (int t = 0; t < n; t++) {
                Person b = buyers.get(draw(z, t, 0) % buyers.size()), s = sellers.get(draw(z, t, 2) % sellers.size());
                Integer bid = tell(b, laws.get(b.number), t, r.last(), draw(z, t, 1));
                Integer offer = tell(s, laws.get(s.number), t, r.last(), draw(z, t, 3));
                boolean free = !r.prices.containsKey(b.number) && !r.prices.containsKey(s.number);
                if (free && offer != null && bid >= offer + set('t')) {
                    r.trade(b, s, offer + set('t'), t);
                }
            }
        } else if (rule == 2) {
            posted(r, z, buyers, sellers);
        } else {
            List<Person> told = new ArrayList<>();
            for (Person p : people) {
                Integer v = tell(p, laws.get(p.number), n - 1, null, draw(z, p.number, 1));
                if (v != null) {
                    told.add(new Person(p.number, p.buys, v));
                }
            }
            Cross c = cross(told, set('t'));
            for (int i = 0; i < c.quantity; i++) {
                r.trade(people.get(c.buyers.get(i).number), people.get(c.sellers.get(i).number), c.low, 0);
            }
        }
        return r;
    }

    private void shouts(Played r, int z) {
        Person bidder = null, asker = null;
        int bid = 0, offer = 0;
        for (int t = 0; t < set('n'); t++) {
            Person p = people.get(draw(z, t, 0) % people.size());
            Integer price = tell(p, laws.get(p.number), t, r.last(), draw(z, t, 1));
            if (r.prices.containsKey(p.number) || price == null) {
                continue;
            }
            r.shouts.add(new Shout(p.number, price, t, r.last()));
            int before = r.inOrder.size();
            if (p.buys && asker != null && price >= offer + set('t')) {
                r.trade(p, asker, offer + set('t'), t);
            } else if (!p.buys && bidder != null && price + set('t') <= bid) {
                r.trade(bidder, p, bid, t);
            } else if (p.buys && (bidder == null || price > bid)) {
                bidder = p;
                bid = price;
            } else if (!p.buys && (asker == null || price < offer)) {
                asker = p;
                offer = price;
            }
            if (r.inOrder.size() > before) {
                bidder = null;
                asker = null;
            }
        }
    }

    private void posted(Played r, int z, List<Person> buyers, List<Person> sellers) {
        List<Person> left = new ArrayList<>();
        for (Person s : sellers) {
            Integer offer = tell(s, laws.get(s.number), 0, null, draw(z, s.number, 1));
            if (offer != null) {
                left.add(new Person(s.number, false, offer));
            }
        }
        left.sort(Comparator.comparingInt((Person p) -> p.card).thenComparingInt(p -> p.number));
        for (int t = 0; t < set('n'); t++) {
            Person b = buyers.get(draw(z, t, 0) % buyers.size());
            if (!r.prices.containsKey(b.number) && !left.isEmpty() && left.get(0).card + set('t') <= b.card) {
                Person s = left.remove(0);
                r.trade(b, people.get(s.number), s.card + set('t'), t);
            }
        }
    }

    private static boolean badRound(int rule, int z) {
        return rule < 0 || rule > 3 || z < 0 || z > 9999;
    }

    private Played heard(int rule, int z) {
        Played r = play(rule, z);
        if (rule == 0) {
            log = r.shouts;
        }
        return r;
    }

    int round(int rule, int z, int what) {
        if (badRound(rule, z) || what < 0 || what > 3) {
            return -10000;
        }
        Played r = heard(rule, z);
        return new int[] {r.inOrder.size(), r.gain, r.soon, r.wanders()}[what];
    }

    int of(int rule, int z, int p) {
        return badRound(rule, z) || lacks(p) ? BAD : heard(rule, z).prices.getOrDefault(p, NONE);
    }

    int means(int rule, int z, int what) {
        if (badRound(rule, z) || what < 0 || what > 2) {
            return -10000;
        }
        int sum = 0;
        for (int i = z; i < z + 10; i++) {
            Played r = play(rule, i >= 10000 ? i - 10000 : i);
            sum += what == 0 ? r.gain : what == 1 ? r.soon : r.wanders();
        }
        return sum;
    }

    int rules(int z, int what) {
        if (badRound(0, z) || what < 0 || what > 3) {
            return BAD;
        }
        if (what == 3) {
            int a = rules(z, 0);
            return rules(z, 1) == a && rules(z, 2) == a ? a : NONE;
        }
        int best = 0;
        for (int rule = 1; rule < 4; rule++) {
            int its = means(rule, z, what), was = means(best, z, what);
            if (what == 0 ? its > was : its < was) {
                best = rule;
            }
        }
        return best;
    }

    // onlookers

    int shout(int i, int what) {
        if (i < 0 || i >= log.size() || what < 0 || what > 3) {
            return BAD;
        }
        Shout s = log.get(i);
        return what == 0 ? s.person : what == 1 ? s.price : what == 2 ? s.step : orNone(s.last);
    }

    int known(int p) {
        if (lacks(p)) {
            return BAD;
        }
        java.util.stream.IntStream heard = log.stream().filter(s -> s.person == p).mapToInt(s -> s.price);
        return people.get(p).buys ? heard.max().orElse(0) : heard.min().orElse(99);
    }

    int least(int what) {
        if (what < 0 || what > 1) {
            return BAD;
        }
        Cross c = cross(people.stream().map(p -> new Person(p.number, p.buys, known(p.number))).toList(), set('t'));
        return what == 0 ? c.quantity : c.most;
    }

    int laws(int p) {
        if (lacks(p)) {
            return BAD;
        }
        int bits = 0;
        for (int law = 0; law < 6; law++) {
            int l = law;
            if (log.stream().filter(s -> s.person == p).allMatch(s -> comes(people.get(p), l, s))) {
                bits += 1 << law;
            }
        }
        return bits;
    }

    private boolean comes(Person p, int law, Shout s) {
        // each modulo is 101 or less: all rests come up
        for (int draw = 0; draw <= 101; draw++) {
            Integer price = tell(p, law, s.step, s.last, draw);
            if (price != null && price == s.price) {
                return true;
            }
        }
        return false;
    }

    // two rooms

    int two(int other, int k, int what) {
        if (other < 0 || other >= 1 << people.size() || k < 0 || k > 99 || what < 0 || what > 1) {
            return -10000;
        }
        Cross here = cross(people.stream().filter(p -> (other >> p.number) % 2 == 0).toList(), 0);
        Cross there = cross(people.stream().filter(p -> (other >> p.number) % 2 == 1).toList(), 0);
        int most = Integer.MIN_VALUE, carried = 0;
        int[] inOrder = new int[21];
        for (int i = 1; i <= 20; i++) {
            inOrder[i] = i % 2 == 1 ? (i + 1) / 2 : -i / 2;
        }
        for (int c : inOrder) {
            for (int b = 0; b <= here.buyers.size(); b++) {
                for (int f = 0; f <= there.buyers.size(); f++) {
                    int sells = b + c, farSells = f - c;
                    if (sells >= 0 && sells <= here.sellers.size() && farSells >= 0 && farSells <= there.sellers.size()) {
                        int gain = first(here.buyers, b) + first(there.buyers, f) - first(here.sellers, sells)
                            - first(there.sellers, farSells) - k * Math.abs(c);
                        if (gain > most) {
                            most = gain;
                            carried = c;
                        }
                    }
                }
            }
        }
        return what == 0 ? most : carried;
    }

    private static int first(List<Person> line, int many) {
        return line.subList(0, many).stream().mapToInt(p -> p.card).sum();
    }

    int keep() {
        if (saved.size() == 2) {
            return FULL;
        }
        saved.add(new Saved(List.copyOf(laws), List.copyOf(log)));
        return saved.size();
    }

    int back() {
        if (saved.isEmpty()) {
            return NO;
        }
        Saved s = saved.remove(saved.size() - 1);
        laws = new ArrayList<>(s.laws);
        log = new ArrayList<>(s.log);
        return saved.size();
    }

    int count(int what) {
        switch (what) {
            case 0: return people.size();
            case 1: return all(people, true).size();
            case 2: return all(people, false).size();
            case 3: return text.length();
            case 4: return log.size();
            case 5: return saved.size();
            case 6: return set('n');
            default: return BAD;
        }
    }
}
