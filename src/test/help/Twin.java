import java.util.ArrayList;
import java.util.HashMap;
import java.util.List;
import java.util.Map;

// Whether a call changes anything: all that can be seen of an object behind it, beside what can be seen of a
// twin that was not called. Looking changes things too, so each look has objects of its own, and is short
// enough to stay below the 512 calls for which an object's answers are promised.
final class Twin {
    private interface Look {
        void at(AtThePost x, List<Long> seen);
    }

    private static final List<Look> LOOKS = List.of(Twin::atHorses, Twin::atForms, Twin::atChances, Twin::atRaces,
            Twin::atTexts, Twin::atPounds, Twin::atSizes, Twin::atItems, Twin::atImage);
    private static final Map<Checks.Start, List<Long>> UNTOUCHED = new HashMap<>();

    private Twin() {
    }

    /** How many of the things that are seen are others than without the call. */
    static int changes(Checks.Start start, Checks.Call call) {
        List<Long> without = UNTOUCHED.computeIfAbsent(start, s -> seen(s, x -> 0));
        List<Long> with = seen(start, call);
        int changed = Math.abs(with.size() - without.size());
        for (int i = 0; i < Math.min(with.size(), without.size()); i++) {
            changed += with.get(i).equals(without.get(i)) ? 0 : 1;
        }
        return changed;
    }

    private static List<Long> seen(Checks.Start start, Checks.Call call) {
        List<Long> seen = new ArrayList<>();
        for (Look look : LOOKS) {
            AtThePost x = start.made();
            call.on(x);
            look.at(x, seen);
        }
        return seen;
    }

    private static void atHorses(AtThePost x, List<Long> seen) {
        for (int what = 0; what < 7; what++) {
            seen.add((long) x.count(what));
        }
        for (int h = 0; h < 10; h++) {
            for (int what = 0; what < 10; what++) {
                seen.add((long) x.told(h, what));
            }
        }
    }

    private static void atForms(AtThePost x, List<Long> seen) {
        for (int h = 0; h < 10; h++) {
            for (int ground = 0; ground < 4; ground++) {
                for (int day = 0; day < 2; day++) {
                    seen.add(x.form(h, ground, day));
                }
            }
        }
        for (int ground = 0; ground < 4; ground++) {
            seen.add((long) x.against(ground, 1));
            seen.add((long) x.against(ground, 9));
            seen.add((long) x.learnt(ground));
        }
    }

    private static void atChances(AtThePost x, List<Long> seen) {
        for (int field : new int[] {3, 12, 31}) {
            for (int h = 0; h < 5; h++) {
                seen.add(x.wins(field, 0, h, 0));
                seen.add(x.worse(field, 307, h, 1, 0));
                seen.add(x.near(field, 101, 10 + h));
                seen.add((long) x.yards(field, 2, h));
                seen.add((long) x.season(field, 112, 77, h, 0));
                seen.add((long) x.season(field, 303, 0, h, 1));
                seen.add(x.holding(field, 2, h, 10, 1));
                seen.add((long) x.pair(h, (h + 1) % 5, 1));
                seen.add((long) x.pair(h, (h + 2) % 5, 2));
            }
        }
    }

    private static void atRaces(AtThePost x, List<Long> seen) {
        for (int r = 0; r < 24; r++) {
            for (int what = 0; what < 13; what++) {
                seen.add((long) x.raceTold(r, what));
            }
        }
    }

    private static void atTexts(AtThePost x, List<Long> seen) {
        seen.add((long) x.text());
        for (int t = 0; t < 6; t++) {
            seen.add((long) x.force(t));
            for (int h = 0; h < 5; h++) {
                seen.add((long) x.told(h, 8));
                seen.add((long) x.told(h, 9));
                seen.add((long) x.season(31, 301, 5, h, 1));
            }
        }
    }

    private static void atPounds(AtThePost x, List<Long> seen) {
        for (int ground = 0; ground < 5; ground++) {
            seen.add((long) x.pound(ground, 0));
        }
    }

    private static void atSizes(AtThePost x, List<Long> seen) {
        for (int s = 0; s < 4; s++) {
            for (int sort = 0; sort < 3; sort++) {
                seen.add((long) x.horses(s, sort, 0, 0));
            }
            for (int i = 0; i < 42; i++) {
                seen.add((long) x.copy(s, i, s, i, 0));
            }
        }
    }

    /** What a row holds is seen by the horses that come from it, as far as they have room. */
    private static void atItems(AtThePost x, List<Long> seen) {
        for (int s = 0; s < 4; s++) {
            for (int sort = 0; sort < 3; sort++) {
                for (int i = 0; i < 7; i++) {
                    seen.add((long) x.horses(s, sort, i, 1));
                }
            }
        }
        atHorses(x, seen);
    }

    private static void atImage(AtThePost x, List<Long> seen) {
        seen.add((long) x.back());
        atHorses(x, seen);
        atPounds(x, seen);
        for (int r = 0; r < 4; r++) {
            for (int what = 0; what < 13; what++) {
                seen.add((long) x.raceTold(r, what));
            }
        }
    }
}
