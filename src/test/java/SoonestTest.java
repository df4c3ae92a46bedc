import java.util.List;
import java.util.Random;

/** Promises 23 and 24 against the plain model, which looks at every plan: 4 and 5 deeds, up to 4 people. */
public final class SoonestTest {
    private static final String[] LAWS = {"minutes", "strong", "20-strong", "minutes+rain*4", "minutes*12/strong", "minute+1",
        "most[1,40-minute]", "3", "minutes+minute/7*3-rain", "1+out*hands*5"};

    public static void main(String[] args) {
        Check check = new Check();
        Random random = new Random(5);
        int found = 0;
        for (int k = 0; k < 900; k++) {
            // Most small, some of 5 deeds and 3 people, a few of the greatest size.
            int deeds = k < 700 ? 2 + random.nextInt(3) : 5;
            int people = k < 700 ? 1 + random.nextInt(3) : k < 890 ? 2 + random.nextInt(2) : 4;
            String road = road(random, deeds, people);
            String law = LAWS[random.nextInt(LAWS.length)];
            RainWheel wheel = Check.fresh();
            Plain plain = new Plain();
            Check.road(wheel, road);
            tell(plain, road);
            plain.road(road.length());
            Check.law(wheel, law);
            tell(plain, law);
            plain.law(law.length());
            compare(check, road + " / " + law, wheel, plain, deeds);
            found += wheel.soonest(0) >= 0 ? 1 : 0;
        }
        check.holds("many have a plan", found > 500);
        check.end();
    }

    private static void compare(Check check, String what, RainWheel wheel, Plain plain, int deeds) {
        List<Integer> best = plain.best();
        check.due("span of " + what, wheel.soonest(0), best.get(0));
        check.due("wet of " + what, wheel.soonest(1), best.get(1));
        for (int line = 0; line < deeds; line++) {
            check.due("line " + line + " of " + what, wheel.first(line), best.get(2 + line));
        }
    }

    private static void tell(Plain plain, String text) {
        for (char c : text.toCharArray()) {
            plain.tape.add((int) c);
        }
    }

    private static String road(Random random, int deeds, int people) {
        StringBuilder s = new StringBuilder();
        boolean alike = random.nextInt(3) == 0;
        for (int p = 0; p < people; p++) {
            s.append("person ").append(alike ? 5 : 1 + random.nextInt(9)).append(';');
        }
        int same = 1 + random.nextInt(9);
        for (int d = 0; d < deeds; d++) {
            s.append("deed ").append(random.nextBoolean() ? same : 1 + random.nextInt(12)).append(' ').append(random.nextInt(2)).append(' ');
            s.append(people == 1 || random.nextInt(5) > 0 ? 1 : 2).append(' ').append(random.nextInt(3) == 0 ? random.nextInt(9) : 0).append(';');
        }
        for (int k = random.nextInt(4); k > 0; k--) {
            int d = 1 + random.nextInt(deeds - 1);
            s.append("needs ").append(d).append(' ').append(random.nextInt(d)).append(';');
        }
        for (int k = random.nextInt(4); k > 0; k--) {
            int from = random.nextInt(25);
            s.append("rain ").append(from).append(' ').append(from + random.nextInt(9)).append(';');
        }
        return s.toString();
    }
}
