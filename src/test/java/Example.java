/** The example of README.md, which shows this text and what it prints. */
public final class Example {
    public static void main(String[] args) {
        SectionLand x = new SectionLand();

        feed(x, "a+b=c;b+a=d;c+d=a;d+c=b");
        int four = x.system();
        print("the first SYSTEM", four);
        print("WIFE of class 0", x.table(four, 0, 0));
        print("class of the mother's father of a man of class 0", x.kin(four, 0, 0, 2 + 8 * 1));
        print("times till father's father comes home", x.home(four, 0, 1 + 8 * 1));
        feed(x, "a+b=a;b+a=a");
        print("a text with a FAULT of kind 3", x.system());
        print("the FAULT's place", x.fault(1));

        int camp = x.camp(four, 0);
        int man = x.stranger(0, 100, camp, 0);
        int woman = x.stranger(1, 102, camp, 1);
        int unknown = x.stranger(0, 103, camp, SectionLand.NONE);
        print("what hinders them in 110: too young", x.may(man, woman, 110));
        print("couples of the greatest matching in 120", x.match(camp, 120));
        print("the woman's man in it", x.matched(woman));
        print("a RIGHT MARRIAGE", x.marry(man, woman, 120));
        int child = x.born(1, 121, woman, man);
        print("CLASS of the child", x.about(child, 6));
        print("classes OPEN to one who told none, as bits", x.open(unknown));

        print("nobody has number 40", x.die(40, 150));
        print("AGE is 40 at most", x.age(41));
        print("both are married then", x.marry(man, woman, 125));
        print("PEOPLE, as ahead of the refused calls", x.count(2));
    }

    /** Feeds a text to THE TAPE, eight bytes at a time, the first one the highest. */
    private static void feed(SectionLand x, String text) {
        for (int at = 0; at < text.length(); at += 8) {
            int end = Math.min(text.length(), at + 8);
            long w = 0;
            for (int i = at; i < end; i++) {
                w = w << 8 | text.charAt(i);
            }
            x.feed(w, end - at);
        }
    }

    private static void print(String what, int answer) {
        System.out.println(what + ": " + answer);
    }
}
