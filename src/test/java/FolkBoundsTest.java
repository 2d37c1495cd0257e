import java.math.BigInteger;

/** The bounds of CONCEPTS, VARIANTS, USE, PRIOR, USED, ODDS and SHARES, a sentence of the document after the other. */
public final class FolkBoundsTest {
    private static final int NONE = Hand.NONE;
    private static final int[] WILD = {Hand.LEAST, Hand.LEAST + 1, -1000, -2, 1000, 1 << 16, 1 << 30, Hand.MOST - 1, Hand.MOST};

    public static void main(String[] args) {
        variants();
        variantRefusals();
        uses();
        useRefusals();
        priors();
        usedAtMost();
        usedRefusals();
        counts();
        countsAsNothing();
        toldEverywhere();
        shares();
        noShares();
        regions();
        greatest();
        Due.finish("FolkBoundsTest");
    }

    private static Hand tenSigns() {
        Hand h = new Hand();
        for (int i = 0; i < 10; i++) {
            h.sign("0000" + i % 3 + "p" + i);
        }
        return h;
    }

    private static void shared(Hand h, int signer, int region, int known, long upper, long lower) {
        Due.due("upper of region " + region, h.share(signer, region, known, 0), upper);
        Due.due("lower of region " + region, h.share(signer, region, known, 1), lower);
    }

    private static void variants() {
        Due.sentence("CONCEPTS 0 .. 3, each with VARIANTS (SIGNS; 4 at most).");
        Hand h = tenSigns();
        for (int concept = 0; concept < 4; concept++) {
            for (int i = 0; i < 4; i++) {
                Due.due("variant", h.variant(concept, 9 - 3 * i), i + 1);
                Due.due("status", h.status(), 0);
            }
            Due.due("a fifth", h.variant(concept, 1), -5);
            Due.due("status", h.status(), -5);
            Due.due("a fifth again", h.variant(concept, 2), -5);
            Due.due("it is none", h.use(concept, 1, 0, 1), -2);
            Due.due("the fourth is one", h.use(concept, 0, 0, 1), 0);
            Due.due("the first is one", h.use(concept, 9, 0, 1), 0);
            Due.due("of the next concept none yet", concept < 3 ? h.use(concept + 1, 9, 0, 1) : -2, -2);
        }
        Scene.same("variant refused by -5", Scene::fill, one -> one.variant(3, 1), one -> one.used(0, 0, 0, 0));
        Scene.same("variant refused by -4", Scene::furnish, one -> one.variant(0, 1), one -> one.variant(0, 4));
    }

    private static void variantRefusals() {
        Due.sentence("A SIGN becomes a VARIANT of a CONCEPT: how many it has. -1; -2; -4; -5.");
        Hand h = tenSigns();
        h.back(0);
        for (int sign = 0; sign < 4; sign++) {
            h.variant(2, sign);
        }
        for (int sign = 0; sign < 4; sign++) {
            Due.due("twice, though full", h.variant(2, sign), -4);
            Due.due("status", h.status(), -4);
        }
        for (int bad : new int[] {-1, 10, 11, Hand.LEAST, Hand.MOST}) {
            Due.due("sign " + bad + " though full", h.variant(2, bad), -2);
            Due.due("status", h.status(), -2);
            Due.due("sign " + bad, h.variant(0, bad), -2);
        }
        for (int bad : new int[] {-1, 4, 5, Hand.LEAST, Hand.MOST}) {
            Due.due("concept " + bad, h.variant(bad, 0), -1);
            Due.due("concept ahead of sign " + bad, h.variant(bad, 10), -1);
            Due.due("status", h.status(), -1);
        }
        Due.due("the first of concept 0", h.variant(0, 9), 1);
        Due.due("the first of concept 3", h.variant(3, 9), 1);
        Due.due("twice", h.variant(3, 9), -4);
        Due.due("of an empty book", new Hand().variant(0, 0), -2);
    }

    private static void uses() {
        Due.sentence("of the signers there USE tells so many parts (0 .. 9; 0 at first) of a VARIANT");
        for (int region = 0; region < 3; region++) {
            Hand h = tenSigns();
            h.variant(3, 9);
            h.variant(3, 0);
            h.used(0, 3, 9, 0);
            for (int all = 0; all < 3; all++) {
                h.use(3, 0, all, 1);
            }
            Due.due("0 at first", h.region(0, 0), NONE);
            for (int parts = 0; parts <= 9; parts++) {
                Due.due("use", h.use(3, 9, region, parts), 0);
                Due.due("status", h.status(), 0);
                if (parts > 0) {
                    shared(h, 0, region, 0, 1, 1);
                    Due.due("region", h.region(0, 0), region);
                } else {
                    Due.due("none of 0 parts", h.region(0, 0), NONE);
                }
            }
            for (int bad : new int[] {-1, 10, 11, Hand.LEAST, Hand.MOST}) {
                Due.due("parts " + bad, h.use(3, 9, region, bad), -1);
                Due.due("status", h.status(), -1);
                shared(h, 0, region, 0, 1, 1);
            }
            h.use(3, 9, (region + 1) % 3, 3);
            shared(h, 0, region, 0, 6, 11);
        }
    }

    private static void useRefusals() {
        Due.sentence("USE of a CONCEPT's SIGN in a REGION: 0. -1; -2 no such SIGN, or it is no VARIANT of that CONCEPT.");
        Hand h = tenSigns();
        h.variant(0, 9);
        h.variant(3, 0);
        Due.due("concept 0, region 0", h.use(0, 9, 0, 0), 0);
        Due.due("concept 3, region 2", h.use(3, 0, 2, 9), 0);
        Due.due("no variant", h.use(0, 8, 0, 1), -2);
        Due.due("status", h.status(), -2);
        Due.due("of another concept", h.use(0, 0, 0, 1), -2);
        Due.due("of no concept", h.use(1, 9, 0, 1), -2);
        for (int bad : new int[] {-1, 10, 11, Hand.LEAST, Hand.MOST}) {
            Due.due("sign " + bad, h.use(0, bad, 0, 1), -2);
            Due.due("status", h.status(), -2);
            Due.due("parts ahead of sign " + bad, h.use(0, bad, 0, 10), -1);
            Due.due("region ahead of sign " + bad, h.use(0, bad, 3, 1), -1);
            Due.due("concept ahead of sign " + bad, h.use(4, bad, 0, 1), -1);
        }
        for (int bad : new int[] {-1, 4, 5, Hand.LEAST, Hand.MOST}) {
            Due.due("concept " + bad, h.use(bad, 9, 0, 1), -1);
        }
        for (int bad : new int[] {-1, 3, 4, Hand.LEAST, Hand.MOST}) {
            Due.due("region " + bad, h.use(0, 9, bad, 1), -1);
            Due.due("status", h.status(), -1);
        }
        Scene.same("use refused by -2", Scene::furnish, one -> one.use(0, 0, 1, 7), one -> one.back(1));
        Scene.same("use refused by -1", Scene::furnish, one -> one.use(0, 1, 1, 10), one -> one.back(2));
    }

    private static void priors() {
        Due.sentence("PRIOR parts of REGIONS 1 .. 100 (1 at first).");
        for (int region = 0; region < 3; region++) {
            Hand h = new Hand();
            shared(h, 0, region, 0, 1, 3);
            Due.due("1 at first", h.prior(region, 100), 1);
            shared(h, 0, region, 0, 50, 51);
            Due.due("100 was it", h.prior(region, 1), 100);
            shared(h, 0, region, 0, 1, 3);
            Due.due("1 was it", h.prior(region, 2), 1);
            for (int bad : new int[] {0, -1, 101, 102, Hand.LEAST, Hand.MOST}) {
                Due.due("prior " + bad, h.prior(region, bad), -1);
                Due.due("status", h.status(), -1);
                shared(h, 0, region, 0, 1, 2);
            }
            Due.due("2 stays", h.prior(region, 99), 2);
            Due.due("status", h.status(), 0);
            shared(h, 9, (region + 1) % 3, 999, 1, 101);
        }
        Hand h = new Hand();
        for (int bad : new int[] {-1, 3, 4, Hand.LEAST, Hand.MOST}) {
            Due.due("region " + bad, h.prior(bad, 7), -1);
            Due.due("status", h.status(), -1);
        }
        shared(h, 0, 0, 0, 1, 3);
    }

    private static void usedAtMost() {
        Due.sentence("USED, 60 at most");
        Hand h = tenSigns();
        for (int concept = 0; concept < 4; concept++) {
            h.variant(concept, 5);
        }
        h.variant(3, 6);
        for (int i = 1; i <= 60; i++) {
            Due.due("used " + i, h.used(i % 10, i % 4, i % 10, i), i);
            Due.due("told", h.count(3), i);
        }
        for (int i = 0; i < 3; i++) {
            Due.due("the 61st", h.used(5, 3, 6, 999), -5);
            Due.due("status", h.status(), -5);
            Due.due("told", h.count(3), 60);
        }
        Due.due("nothing of it", h.counts(5, 3, 999), 5);
        h.variant(0, 0);
        Due.due("the 60th counts", h.counts(0, 0, 60), 0);
        Due.due("on its day alone", h.counts(0, 0, 59), 0);
        Due.due("the 20th ahead of it, the 40th too", h.counts(0, 0, 19), NONE);
        Due.due("no sign, though full", h.used(0, 0, 10, 0), -2);
        Due.due("status", h.status(), -2);
        Due.due("a number, though full", h.used(10, 0, 0, 0), -1);
        Due.due("status", h.status(), -1);
        Scene.same("used refused by -5", Scene::fill, one -> one.used(3, 3, 2, 0), one -> one.sight(0, 0, 0, 0, 0, 0, 0));
    }

    private static void usedRefusals() {
        Due.sentence("USED: how many were told. -1; -2; -5.");
        Hand h = tenSigns();
        Due.due("of no variant", h.used(0, 0, 0, 0), 1);
        Due.due("the greatest", h.used(9, 3, 9, 999), 2);
        Due.due("status", h.status(), 0);
        int[] good = {9, 3, 9, 999};
        for (int i = 0; i < 4; i++) {
            for (int bad : new int[] {-1, good[i] + 1, good[i] + 2, Hand.LEAST, Hand.MOST}) {
                int[] n = good.clone();
                n[i] = bad;
                Due.due("used", h.call("used", n), i == 2 ? -2 : -1);
                Due.due("status", h.status(), i == 2 ? -2 : -1);
                Due.due("told", h.count(3), 2);
                n[2] = 10;
                Due.due("used of no sign", h.call("used", n), i == 2 ? -2 : -1);
            }
        }
        Due.due("of an empty book", new Hand().used(0, 0, 0, 0), -2);
    }

    private static void counts() {
        Due.sentence("of each SIGNER and CONCEPT that told last of those known counts");
        Hand h = tenSigns();
        for (int sign = 0; sign < 4; sign++) {
            h.variant(0, sign);
            h.variant(3, sign);
        }
        h.used(0, 0, 1, 10);
        h.used(0, 0, 2, 5);
        Due.due("an older day told last", h.counts(0, 0, 10), 2);
        Due.due("of day 5", h.counts(0, 0, 5), 2);
        Due.due("of day 4", h.counts(0, 0, 4), NONE);
        h.used(0, 0, 3, 7);
        Due.due("of day 999", h.counts(0, 0, 999), 3);
        Due.due("of day 7", h.counts(0, 0, 7), 3);
        Due.due("of day 6", h.counts(0, 0, 6), 2);
        h.used(0, 0, 0, 0);
        Due.due("day 0 told last", h.counts(0, 0, 0), 0);
        Due.due("it counts for all days", h.counts(0, 0, 999), 0);
        h.used(9, 3, 3, 999);
        Due.due("day 999", h.counts(9, 3, 999), 3);
        Due.due("day 998", h.counts(9, 3, 998), NONE);
        Due.due("another concept", h.counts(9, 2, 999), NONE);
        Due.due("another signer", h.counts(8, 3, 999), NONE);
        Due.sentence("The SIGN that counts of a SIGNER for a CONCEPT as known; NONE");
        int[][] bad = {{-1, 0, 0}, {10, 0, 0}, {0, -1, 0}, {0, 4, 0}, {0, 0, -1}, {0, 0, 1000}, {-1, 4, 0}, {10, -1, 0}};
        for (int[] b : bad) {
            Due.due("counts", h.counts(b[0], b[1], b[2]), NONE);
        }
        h.used(1, 0, 2, 0);
        Due.due("concept 4 is not the next signer's first", h.counts(0, 4, 999), NONE);
        Due.due("concept -1 is not the last signer's last", h.counts(10, -1, 999), NONE);
        Due.due("concept -4 is not the last signer's first", h.counts(2, -4, 999), NONE);
        for (int wild : WILD) {
            Due.due("signer " + wild, h.counts(wild, 0, 0), NONE);
            Due.due("concept " + wild, h.counts(0, wild, 0), NONE);
            Due.due("day " + wild, h.counts(0, 0, wild), NONE);
        }
        Due.due("status is not touched", h.status(), 0);
    }

    private static void countsAsNothing() {
        Due.sentence("(one of no VARIANT there counts as nothing)");
        Hand h = tenSigns();
        h.variant(0, 0);
        h.variant(0, 1);
        h.variant(1, 2);
        for (int region = 0; region < 3; region++) {
            h.use(0, 0, region, 1 + region);
            h.use(0, 1, region, 4 - region);
        }
        h.used(4, 0, 0, 0);
        shared(h, 4, 2, 9, 1, 2);
        h.used(4, 0, 2, 5);
        Due.due("no variant of that concept", h.counts(4, 0, 5), NONE);
        shared(h, 4, 2, 5, 1, 3);
        Due.due("ahead of it", h.counts(4, 0, 4), 0);
        shared(h, 4, 2, 4, 1, 2);
        h.variant(0, 2);
        Due.due("a variant now", h.counts(4, 0, 5), 2);
        Due.due("without any part", h.region(4, 5), NONE);
        h.use(0, 2, 1, 5);
        shared(h, 4, 1, 5, 1, 1);
    }

    private static void toldEverywhere() {
        Due.sentence("(a CONCEPT of which USE tells nothing in some REGION counts as nothing)");
        for (int region = 0; region < 3; region++) {
            Hand h = tenSigns();
            h.variant(2, 7);
            h.variant(2, 8);
            h.used(3, 2, 7, 0);
            h.prior(region, 2);
            shared(h, 3, region, 0, 1, 2);
            for (int other = 0; other < 3; other++) {
                if (other != region) {
                    h.use(2, 7, other, 1);
                }
            }
            shared(h, 3, region, 0, 1, 2);
            Due.due("it counts all the same", h.counts(3, 2, 0), 7);
            h.use(2, 8, region, 1);
            shared(h, 3, region, 0, 0, 1);
            h.use(2, 7, region, 1);
            shared(h, 3, region, 0, 1, 3);
            h.use(2, 8, region, 0);
            shared(h, 3, region, 0, 1, 2);
            h.use(2, 7, region, 0);
            shared(h, 3, region, 0, 1, 2);
        }
        Hand h = tenSigns();
        h.variant(0, 0);
        h.variant(1, 1);
        h.used(3, 0, 0, 0);
        h.used(3, 1, 1, 0);
        for (int region = 0; region < 3; region++) {
            h.use(0, 0, region, 1);
        }
        h.use(1, 1, 0, 9);
        shared(h, 3, 0, 0, 1, 3);
    }

    private static void shares() {
        Due.sentence("ODDS of a REGION: PRIOR times, for each CONCEPT that counts, what USE tells of that VARIANT there, by all"
                + " parts told there of that CONCEPT");
        Hand h = tenSigns();
        int[][] parts = {{6, 2, 3}, {2, 2, 9}};
        for (int concept = 0; concept < 4; concept += 3) {
            for (int i = 0; i < 2; i++) {
                h.variant(concept, i + concept);
                for (int region = 0; region < 3; region++) {
                    h.use(concept, i + concept, region, parts[i][region]);
                }
            }
        }
        shared(h, 5, 0, 0, 1, 3);
        h.used(5, 0, 0, 1);
        h.used(5, 3, 4, 2);
        shared(h, 5, 0, 0, 1, 3);
        shared(h, 5, 0, 1, 1, 2);
        shared(h, 5, 1, 1, 1, 3);
        shared(h, 5, 2, 1, 1, 6);
        shared(h, 5, 0, 2, 3, 10);
        shared(h, 5, 1, 2, 2, 5);
        shared(h, 5, 2, 2, 3, 10);
        h.prior(2, 100);
        shared(h, 5, 2, 1, 20, 21);
        shared(h, 5, 2, 2, 300, 307);
    }

    private static void noShares() {
        Due.sentence("SHARE: ODDS of a REGION by those of all together, in lowest terms; without any above 0: none.");
        Hand h = tenSigns();
        h.variant(0, 0);
        h.variant(0, 1);
        for (int region = 0; region < 3; region++) {
            h.use(0, 1, region, 1);
        }
        h.used(0, 0, 0, 3);
        for (int region = 0; region < 3; region++) {
            shared(h, 0, region, 2, 1, 3);
            shared(h, 0, region, 3, NONE, NONE);
            shared(h, 1, region, 3, 1, 3);
        }
        Due.due("no region", h.region(0, 3), NONE);
        Due.due("ahead of that day", h.region(0, 2), 0);
        h.use(0, 0, 1, 9);
        shared(h, 0, 0, 3, 0, 1);
        shared(h, 0, 1, 3, 1, 1);
        shared(h, 0, 2, 3, 0, 1);
        Due.due("the one above 0", h.region(0, 3), 1);
        int[][] bad = {{-1, 0, 0, 0}, {10, 0, 0, 0}, {0, -1, 0, 0}, {0, 3, 0, 0}, {0, 0, -1, 0}, {0, 0, 1000, 0}, {0, 0, 0, -1},
            {0, 0, 0, 2}};
        for (int[] b : bad) {
            Due.due("share", h.share(b[0], b[1], b[2], b[3]), NONE);
        }
        for (int wild : WILD) {
            Due.due("signer " + wild, h.share(wild, 0, 0, 0), NONE);
            Due.due("region " + wild, h.share(0, wild, 0, 0), NONE);
            Due.due("day " + wild, h.share(0, 0, wild, 0), NONE);
            Due.due("what " + wild, h.share(0, 0, 0, wild), NONE);
            Due.due("region of signer " + wild, h.region(wild, 0), NONE);
            Due.due("region on day " + wild, h.region(0, wild), NONE);
        }
        Due.due("status is not touched", h.status(), 0);
        Due.due("signer 9, day 999", h.share(9, 2, 999, 1), 3);
    }

    private static void regions() {
        Due.sentence("The REGION of the greatest ODDS, of alike ones the lowest; NONE likewise.");
        int[][] priors = {{1, 1, 1, 0}, {1, 2, 1, 1}, {1, 1, 2, 2}, {1, 2, 2, 1}, {2, 1, 2, 0}, {2, 2, 1, 0}, {99, 100, 100, 1},
            {100, 99, 100, 0}, {99, 99, 100, 2}, {1, 100, 1, 1}};
        for (int[] p : priors) {
            Hand h = new Hand();
            for (int region = 0; region < 3; region++) {
                h.prior(region, p[region]);
            }
            Due.due("region", h.region(0, 0), p[3]);
            Due.due("region of signer 9, day 999", h.region(9, 999), p[3]);
        }
        Hand h = new Hand();
        Due.due("signer -1", h.region(-1, 0), NONE);
        Due.due("signer 10", h.region(10, 0), NONE);
        Due.due("day -1", h.region(0, -1), NONE);
        Due.due("day 1000", h.region(0, 1000), NONE);
    }

    /** Four concepts of four variants each: the greatest numbers, and primes that have no common part. */
    private static void greatest() {
        Due.sentence("SHARE: ODDS of a REGION by those of all together, in lowest terms");
        int[][] parts = {{9, 9, 9}, {9, 9, 9}, {9, 8, 9}, {9, 9, 7}};
        greatest(parts, new int[] {100, 100, 100});
        greatest(parts, new int[] {100, 99, 97});
        greatest(new int[][] {{9, 9, 9}, {9, 9, 9}, {9, 9, 9}, {9, 9, 9}}, new int[] {100, 100, 100});
        greatest(new int[][] {{9, 9, 9}, {9, 9, 9}, {9, 9, 9}, {9, 9, 9}}, new int[] {100, 1, 1});
        greatest(new int[][] {{9, 1, 7}, {9, 9, 9}, {9, 9, 9}, {4, 9, 6}}, new int[] {1, 100, 97});
        greatest(new int[][] {{1, 1, 1}, {0, 9, 9}, {0, 9, 9}, {0, 9, 9}}, new int[] {1, 100, 100});
        greatest(new int[][] {{9, 0, 0}, {9, 9, 9}, {9, 9, 9}, {9, 9, 9}}, new int[] {1, 100, 100});
    }

    private static void greatest(int[][] parts, int[] priors) {
        Hand h = tenSigns();
        BigInteger[] odds = new BigInteger[3];
        int[] told = new int[3];
        for (int concept = 0; concept < 4; concept++) {
            for (int i = 0; i < 4; i++) {
                h.variant(concept, concept + i);
                for (int region = 0; region < 3; region++) {
                    h.use(concept, concept + i, region, parts[i][region]);
                    told[region] += concept == 0 ? parts[i][region] : 0;
                }
            }
            h.used(9, concept, concept, 999);
        }
        BigInteger all = BigInteger.ZERO;
        for (int region = 0; region < 3; region++) {
            h.prior(region, priors[region]);
            long others = (long) told[(region + 1) % 3] * told[(region + 2) % 3];
            odds[region] = BigInteger.valueOf(parts[0][region] * others).pow(4).multiply(BigInteger.valueOf(priors[region]));
            all = all.add(odds[region]);
        }
        int most = 0;
        for (int region = 0; region < 3; region++) {
            BigInteger common = odds[region].gcd(all);
            shared(h, 9, region, 999, odds[region].divide(common).longValueExact(), all.divide(common).longValueExact());
            most = odds[region].compareTo(odds[most]) > 0 ? region : most;
        }
        Due.due("region", h.region(9, 999), most);
        shared(h, 9, 0, 998, priors[0] / gcd(priors[0], priors[0] + priors[1] + priors[2]),
                (priors[0] + priors[1] + priors[2]) / gcd(priors[0], priors[0] + priors[1] + priors[2]));
    }

    private static int gcd(int a, int b) {
        return b == 0 ? a : gcd(b, a % b);
    }
}
