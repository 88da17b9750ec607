import java.util.ArrayList;
import java.util.List;
import java.util.function.ToIntFunction;

/** A land as a list of calls, so that it can be made again and again, and its calls counted. */
final class Scene {
    private final List<ToIntFunction<SectionLand>> calls = new ArrayList<>();
    private final List<Integer> due = new ArrayList<>();

    /** A call of the scene and what it answers. */
    Scene then(int want, ToIntFunction<SectionLand> call) {
        calls.add(call);
        due.add(want);
        return this;
    }

    /** Feeds a text behind so many bytes of the tape. */
    Scene feeds(int behind, String text) {
        for (int at = 0; at < text.length(); at += 8) {
            String part = text.substring(at, Math.min(text.length(), at + 8));
            then(behind + at + part.length(), x -> x.feed(Check.word(part), part.length()));
        }
        return this;
    }

    /** Feeds a text and reads it. */
    Scene reads(int want, String text) {
        return feeds(0, text).then(want, SectionLand::system);
    }

    int size() {
        return calls.size();
    }

    SectionLand make() {
        SectionLand x = new SectionLand();
        for (int i = 0; i < calls.size(); i++) {
            int got = calls.get(i).applyAsInt(x);
            if (got != due.get(i)) {
                throw new IllegalStateException("call " + i + " of the scene answered " + got);
            }
        }
        return x;
    }
}
