import java.util.Random;

/**
 * Promises 26 to 28: all are of one class that marries within itself, so that only being near
 * hinders; children of few parents make matchings in which a first choice must often be changed.
 */
public final class FamiliesTest {
    private static final int RUNS = 4000;
    private static final Check check = new Check();

    public static void main(String[] args) {
        for (int run = 0; run < RUNS && check.isClean(); run++) {
            families(run, new Random(run));
        }
        check.end("FamiliesTest");
    }

    private static void families(int run, Random random) {
        SectionLand x = new SectionLand();
        PlainLand plain = new PlainLand();
        String text = "a+a=a;b+b=b";
        for (int i = 0; i < text.length(); i++) {
            x.feed(text.charAt(i), 1);
            plain.feed(text.charAt(i), 1);
        }
        x.system();
        plain.system();
        x.camp(0, 0);
        plain.camp(0, 0);
        int parents = 2 + random.nextInt(3);
        for (int p = 0; p < 2 * parents; p++) {
            x.stranger(p % 2, 0, 0, 0);
            plain.stranger(p % 2, 0, 0, 0);
        }
        int children = 2 + random.nextInt(random.nextBoolean() ? 10 : 48 - 2 * parents - 2);
        int women = 1 + random.nextInt(5);
        for (int i = 0; i < children; i++) {
            int sex = random.nextInt(6) < women ? 1 : 0;
            int mother = 1 + 2 * random.nextInt(parents);
            int father = 2 * Math.min(random.nextInt(parents), random.nextInt(parents));
            x.born(sex, 20, mother, father);
            plain.born(sex, 20, mother, father);
        }
        boolean withParents = random.nextInt(3) == 0;
        for (int p = 0; p < 2 * parents && !withParents; p++) {
            x.die(p, 30);
            plain.die(p, 30);
        }
        check.due("26 run " + run, x.match(0, 50), plain.match(0, 50));
        for (int p = 0; p < plain.count(2); p++) {
            check.due("27 run " + run + " " + p, x.matched(p), plain.matched(p));
        }
        check.due("28 run " + run + " men", x.lack(0), plain.lack(0));
        check.due("28 run " + run + " women", x.lack(1), plain.lack(1));
    }
}
