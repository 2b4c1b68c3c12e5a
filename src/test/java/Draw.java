import java.math.BigInteger;
import java.util.function.IntPredicate;

/** DRAWS, worked out once more, and the z by which PEOPLE come up in an order that is wanted. */
final class Draw {
    static int of(int z, int t, int k) {
        long x = 7919L * z + 6151L * t + 3571L * k + 1;
        return BigInteger.valueOf(x).pow(2).mod(BigInteger.valueOf(65521)).intValue();
    }

    /** The least z whose first STEPS by RULE 0 belong to these of so many PEOPLE (RULE 2: of so many BUYERS). */
    static int order(int people, int... persons) {
        return order(z -> true, people, persons);
    }

    /** The least z of these that also are so. */
    static int order(IntPredicate also, int people, int... persons) {
        for (int z = 0; z <= 9999; z++) {
            if (also.test(z) && isInOrder(z, people, persons)) {
                return z;
            }
        }
        throw new IllegalArgumentException("no z has this order");
    }

    static boolean isInOrder(int z, int people, int... persons) {
        int t = 0;
        while (t < persons.length && of(z, t, 0) % people == persons[t]) {
            t++;
        }
        return t == persons.length;
    }

    /** The least z by which RULE 1 brings these together from a STEP on, a BUYER and a SELLER by turns. */
    static int meetings(int step, int buyers, int sellers, int... each) {
        for (int z = 0; z <= 9999; z++) {
            int i = 0;
            while (i < each.length && of(z, step + i / 2, i % 2 * 2) % (i % 2 == 0 ? buyers : sellers) == each[i]) {
                i++;
            }
            if (i == each.length) {
                return z;
            }
        }
        throw new IllegalArgumentException("no z has these meetings");
    }
}
