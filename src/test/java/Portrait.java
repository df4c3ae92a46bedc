import java.util.LinkedHashMap;
import java.util.Map;
import java.util.Objects;

/**
 * All that can be seen of a wheel, by name: what it tells, what it reckons, what can be undone and restored, what is on
 * the tape. To see the last three it uses them up, so a wheel is portrayed once. It takes fewer than 400 calls.
 */
final class Portrait {
    static final String MISSING = "status 0";
    static final String IMPROPER = "status 1";
    static final String UNTIMELY = "status 2";
    static final String FAULT = "fault";
    static final String TAPE = "count 1";

    private final Map<String, Long> seen = new LinkedHashMap<>();
    private final RainWheel wheel;

    private Portrait(RainWheel wheel) {
        this.wheel = wheel;
    }

    static Portrait of(RainWheel wheel) {
        Portrait portrait = new Portrait(wheel);
        portrait.counts();
        portrait.whatWasTold();
        portrait.plan();
        portrait.soonest();
        portrait.tools();
        portrait.evenings();
        portrait.past("told");
        portrait.images();
        portrait.tape();
        return portrait;
    }

    long see(String what) {
        return seen.get(what);
    }

    /** A portrait that shows another number in one place. */
    Portrait but(String what, long value) {
        if (!seen.containsKey(what)) {
            throw new IllegalStateException("no portrait shows " + what);
        }
        seen.put(what, value);
        return this;
    }

    /** What differs, in words; empty if nothing does. */
    String differsFrom(Portrait other) {
        StringBuilder all = new StringBuilder();
        for (Map.Entry<String, Long> entry : other.seen.entrySet()) {
            Long mine = seen.get(entry.getKey());
            if (!Objects.equals(mine, entry.getValue())) {
                all.append(' ').append(entry.getKey()).append(" is ").append(mine).append(", due is ").append(entry.getValue()).append(';');
            }
        }
        if (seen.size() > other.seen.size()) {
            all.append(" there is more to see than is due");
        }
        return all.toString();
    }

    private void put(String what, long value) {
        seen.put(what, value);
    }

    private void counts() {
        for (int what = 0; what < 3; what++) {
            put("status " + what, wheel.status(what));
        }
        for (int what = 0; what < 3; what++) {
            put("count " + what, wheel.count(what));
        }
        put(FAULT, wheel.fault());
    }

    private void whatWasTold() {
        for (int what = 0; what <= 8; what++) {
            put("told " + what, wheel.told(what));
        }
        for (int deed = 0; deed < wheel.told(1); deed++) {
            for (int what = 0; what <= 4; what++) {
                put("deed " + deed + " " + what, wheel.deed(deed, what));
            }
            put("ahead " + deed, wheel.ahead(deed));
            put("chain " + deed, wheel.chain(deed));
        }
        for (int person = 0; person < wheel.told(0); person++) {
            put("strong " + person, wheel.strong(person));
        }
        for (int yard : new int[] {0, 5, 59}) {
            put("bears " + yard, wheel.bears(yard));
        }
        for (int minute : new int[] {0, 1, 2, 6, 7, 240}) {
            put("rains " + minute, wheel.rains(minute) ? 1 : 0);
        }
        put("would", wheel.would(7, 2, 9, 1, 3, 1));
    }

    private void plan() {
        lines("told");
        put("span", wheel.span());
        for (int line = 0; line < wheel.told(5); line++) {
            put("line " + line + " begins", wheel.line(line, 3));
            put("line " + line + " ends", wheel.line(line, 4));
            put("line " + line + " blocked", wheel.line(line, 2));
        }
        for (int person = 0; person < wheel.told(0); person++) {
            put("wet " + person, wheel.wet(person));
            put("idle " + person, wheel.idle(person));
        }
        put("umbrella", wheel.umbrella());
        for (int deed = 0; deed < wheel.told(1); deed++) {
            put("slack " + deed, wheel.slack(deed));
        }
        put("urgent", wheel.urgent());
    }

    private void lines(String when) {
        int lines = wheel.told(5);
        put("lines " + when, lines);
        for (int line = 0; line < lines; line++) {
            put("line " + line + " " + when, 16L * wheel.line(line, 0) + wheel.line(line, 1));
        }
    }

    private void soonest() {
        if (wheel.told(1) <= 5) {
            put("soonest 0", wheel.soonest(0));
            put("soonest 1", wheel.soonest(1));
            for (int k = 0; k < wheel.told(1); k++) {
                put("first " + k, wheel.first(k));
            }
        }
    }

    private void tools() {
        put("sinks", wheel.sinks(5, wheel.told(2) > 0 ? 1 : 0, 10));
        put("under", wheel.under(5, 10, 50));
        put("push", wheel.push(0, 1, 10, 1));
        put("easiest", wheel.easiest(5));
        for (int nut = 0; nut < wheel.told(3); nut++) {
            put("tries " + nut, wheel.tries(nut, 2, 5, 0));
            put("half " + nut, wheel.half(nut, 5));
        }
        put("waits", wheel.waits(2, 10, 3, 0));
        put("await", wheel.await(10, 3));
        put("drive", wheel.drive(9));
        put("pumps", wheel.pumps(9));
        for (int cause = 0; cause < wheel.told(4); cause++) {
            put("odds above " + cause, wheel.odds(cause, 0));
            put("odds below " + cause, wheel.odds(cause, 1));
        }
        put("likeliest", wheel.likeliest());
        put("ask", wheel.ask());
    }

    private void evenings() {
        for (int what = 0; what < 3; what++) {
            put("evening " + what, wheel.evening(2, what));
        }
        for (int what = 0; what < 4; what++) {
            put("evenings " + what, wheel.evenings(1, 9, what));
        }
    }

    private void past(String when) {
        int left = wheel.count(2);
        while (left > 0) {
            put("changes left, " + when + " " + left, wheel.undo());
            left--;
            put("first line, " + when + " less " + left, wheel.told(5) == 0 ? -1 : 16L * wheel.line(0, 0) + wheel.line(0, 1));
        }
        lines(when + " all undone");
    }

    private void images() {
        for (int left = wheel.count(0); left > 0; left--) {
            put("images left " + left, wheel.restore());
            put("changes of image " + left, wheel.count(2));
            lines("image " + left);
            past("image " + left);
        }
    }

    private void tape() {
        put("tape as a book", wheel.book(Math.min(40, wheel.count(1))));
        put("tape's fault", wheel.fault());
        put("tape then", wheel.count(1));
        put("lines of that book", wheel.told(6));
    }
}
