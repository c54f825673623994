/** The boundary cases of "Terms" about DEFINITIONS, LOADERS and classes; above each test stands what the document says. */
public final class LoaderEdgesTest {
    private static final Due due = new Due();
    private static final int OK = RemoteDesk.OK, BAD = RemoteDesk.BAD, NOTFOUND = RemoteDesk.NOTFOUND, PROHIBITED = RemoteDesk.PROHIBITED,
        SPOILED = RemoteDesk.SPOILED, CIRCLE = RemoteDesk.CIRCLE, SIGNERS = RemoteDesk.SIGNERS, INIT = RemoteDesk.INIT, GONE = RemoteDesk.GONE,
        WRONG = RemoteDesk.WRONG;
    private static final int FRESH = 0, READY = 1, BROKEN = 2;

    public static void main(String[] args) {
        packages();
        shapes();
        flagsOfCodebases();
        flagsOfPlaces();
        noneAtFirst();
        loaderOfEachCodebase();
        knowsFirst();
        notesAtTheFirstLoading();
        notesAtAnError();
        notesWhenReading();
        notesForItselfAlone();
        othersDoNotNote();
        prefersOrNot();
        knowsWhatTheOwnLoaderGave();
        doesNotKnowAnError();
        ownLoaderGivesItsErrors();
        notFound();
        prohibited();
        spoiled();
        circleOfItself();
        circlesOfAllLengths();
        circleBehindOthers();
        noCircleThroughWhatIsKnown();
        noCircleOfAnotherLoader();
        noCircleAfterAnError();
        parentsErrors();
        parentByTheSameLoader();
        orderOfErrors();
        parentIsDefinedBeforeSigners();
        signersOfAll();
        signersOfWhatWasDefined();
        definedAsItIsThen();
        readyTwice();
        failing();
        failingParent();
        brokenParent();
        brokenFarAway();
        freshUntilReadied();
        brokenForOneLoaderAlone();
        oneClassOfEach();
        allClasses();
        due.close();
    }

    private static void status(String what, RemoteDesk d, int loader, int name, int want) {
        due.is(what, d.known(0, loader, name, 1), want);
    }

    /** "NAMES 0..11 are of PACKAGE name / 4." */
    private static void packages() {
        for (int a = 0; a < 8; a++) {
            for (int b = 0; b < 8; b++) {
                RemoteDesk d = new RemoteDesk();
                d.offer(0, a, -1, 0, 1, 0);
                due.is("PACKAGE: name " + a, d.make(0, 0, a, 0), OK);
                d.offer(0, b, -1, 0, 1, 1);
                boolean isSame = a <= 3 && b <= 3 || a >= 4 && b >= 4;
                due.is("PACKAGE: names " + a + ", " + b, d.make(0, 0, b, 0), a != b && isSame ? SIGNERS : OK);
            }
        }
    }

    /** "CELL k of its objects is a REF if bit k is 1, else a NUMBER; k is 0, 1" */
    private static void shapes() {
        for (int shape = 0; shape < 4; shape++) {
            RemoteDesk d = new RemoteDesk();
            d.offer(4, 0, -1, shape, 1, 0);
            for (int k = 0; k < 2; k++) {
                boolean isRef = shape == 3 || shape == k + 1;
                d.make(0, 4, 0, 0);
                due.is("SHAPE: at first", d.look(0, 0, 0, 0, k), 0);
                due.is("SHAPE: put", d.put(0, 0, k, 0), true);
                due.is("SHAPE " + shape + ": CELL " + k + " holds itself", d.look(0, 0, 0, 0, k), isRef ? 1 : 0);
                due.is("SHAPE: put", d.put(0, 0, k, 7), true);
                due.is("SHAPE " + shape + ": CELL " + k + " is 7 or nothing", d.look(0, 0, 0, 0, k), isRef ? 0 : 7);
                due.is("SHAPE " + shape + ": along CELL " + k, d.walk(0, 0, k), isRef);
            }
            due.is("SHAPE: known", d.known(0, 4, 0, 2), shape);
        }
    }

    /** "FLAGS 0..7 (1 SENDABLE, 2 SPOILED, 4 FAILING)", of a DEFINITION of a CODEBASE */
    private static void flagsOfCodebases() {
        int[] made = {OK, OK, SPOILED, SPOILED, INIT, INIT, SPOILED, SPOILED};
        for (int flags = 0; flags < 8; flags++) {
            RemoteDesk d = new RemoteDesk();
            d.offer(3, 0, -1, 0, flags, 0);
            due.is("FLAGS " + flags + ": make", d.make(0, 3, 0, 0), made[flags]);
            due.is("FLAGS " + flags + ": known", d.known(0, 3, 0, 3), made[flags] == SPOILED ? BAD : flags);
            due.is("FLAGS " + flags + ": objects", d.state(0, 0), made[flags] == OK ? 1 : 0);
            if (made[flags] == OK) {
                isSendable(d, flags);
            }
        }
    }

    /** The same of a place's own: "LOADER 0..3, and it is SPOILED" is not so for LOADER 4. */
    private static void flagsOfPlaces() {
        for (int flags = 0; flags < 8; flags++) {
            RemoteDesk d = new RemoteDesk();
            d.offer(4, 0, -1, 0, flags, 0);
            due.is("FLAGS " + flags + ": make", d.make(0, 4, 0, 0), flags >= 4 ? INIT : OK);
            due.is("FLAGS " + flags + ": known", d.known(0, 4, 0, 3), flags);
            if (flags < 4) {
                isSendable(d, flags);
            }
        }
    }

    private static void isSendable(RemoteDesk d, int flags) {
        d.offer(4, 1, -1, 0, 1, 0);
        d.make(0, 4, 1, 1);
        d.bind(0, 0, 1);
        d.lookup(0, 0, 0, 1);
        due.is("FLAGS " + flags + ": sent", d.call(0, 1, 3, 0, 2), (flags & 1) == 1 ? OK : RemoteDesk.UNSENDABLE);
    }

    /** "none of all these at first": no name is PREFERRED */
    private static void noneAtFirst() {
        for (int c = 0; c < 4; c++) {
            RemoteDesk d = new RemoteDesk();
            for (int name = 0; name < 12; name++) {
                d.offer(c, name, -1, 0, 1, 0);
                d.offer(5, name, -1, 0, 1, 0);
                d.make(1, c, name, 0);
                due.is("PREFERRED: none at first", d.known(1, c, name, 0), 4);
            }
        }
    }

    /** "Each place has LOADERS 0..3, one for each CODEBASE, and 4, its own." */
    private static void loaderOfEachCodebase() {
        for (int at = 0; at < 7; at++) {
            RemoteDesk d = new RemoteDesk();
            d.offer(at, 6, -1, 0, 1, 0);
            for (int p = 0; p < 3; p++) {
                for (int loader = 0; loader < 5; loader++) {
                    boolean isThere = at < 4 ? loader == at : p == at - 4;
                    due.is("LOADER " + loader + " of " + p + ", DEFINITION at " + at, d.make(p, loader, 6, 0), isThere ? OK : NOTFOUND);
                    due.is("LOADER: who DEFINED it", d.known(p, loader, 6, 0), isThere ? Math.min(at, 4) : BAD);
                }
            }
        }
    }

    /** "It KNOWS a class: that." is the first. */
    private static void knowsFirst() {
        RemoteDesk d = new RemoteDesk();
        d.offer(0, 7, -1, 0, 1, 0);
        d.make(0, 0, 7, 0);
        d.offer(0, 7, 7, 0, 1, 0);
        due.is("KNOWS: before CIRCLE", d.make(0, 0, 7, 0), OK);
        d.offer(0, 7, -1, 0, 3, 0);
        due.is("KNOWS: before SPOILED", d.make(0, 0, 7, 0), OK);
        d.offer(0, 7, 6, 0, 1, 1);
        due.is("KNOWS: before the PARENT's ERROR and SIGNERS", d.make(0, 0, 7, 0), OK);
        d.offer(4, 7, 7, 0, 1, 0);
        due.is("KNOWS: before what LOADER 4 gives", d.make(0, 0, 7, 0), OK);
        d.withdraw(0, 7);
        d.withdraw(4, 7);
        due.is("KNOWS: before NOTFOUND", d.make(0, 0, 7, 0), OK);
        due.is("KNOWS: always the same", d.state(0, 1), 1);
        d.offer(4, 11, -1, 0, 1, 0);
        d.make(0, 0, 11, 0);
        d.withdraw(4, 11);
        d.offer(0, 11, -1, 0, 1, 0);
        due.is("KNOWS: before PROHIBITED", d.make(0, 0, 11, 0), OK);
    }

    /** Both have names 0 and 11, and LOADER 1 of place 0 has LOADED name 5 while the set was this one. */
    private static RemoteDesk noted(int set) {
        RemoteDesk d = new RemoteDesk();
        d.offer(1, 0, -1, 0, 1, 0);
        d.offer(4, 0, -1, 0, 1, 0);
        d.offer(1, 11, -1, 0, 1, 0);
        d.offer(4, 11, -1, 0, 1, 0);
        d.offer(1, 5, -1, 0, 1, 0);
        d.prefer(1, set);
        due.is("noting: the first", d.make(0, 1, 5, 0), OK);
        return d;
    }

    /** "LOADER 0..3, when it is to LOAD for the first time, notes which names are PREFERRED; just these are so for it from then on." */
    private static void notesAtTheFirstLoading() {
        RemoteDesk d = noted(0);
        d.prefer(1, 4095);
        due.is("noting: none was PREFERRED", d.make(0, 1, 0, 0), OK);
        due.is("noting: so it is the place's", d.known(0, 1, 0, 0), 4);
        due.is("noting: none was PREFERRED", d.make(0, 1, 11, 0), OK);
        d = noted(4095);
        d.prefer(1, 0);
        due.is("noting: all were PREFERRED", d.make(0, 1, 0, 0), OK);
        due.is("noting: so it is the CODEBASE's", d.known(0, 1, 0, 0), 1);
        due.is("noting: all were PREFERRED", d.make(0, 1, 11, 0), PROHIBITED);
        d = noted(1);
        d.prefer(1, 2048);
        due.is("noting: 0 was PREFERRED", d.make(0, 1, 0, 0), OK);
        due.is("noting: so it is the CODEBASE's", d.known(0, 1, 0, 0), 1);
        due.is("noting: 11 was not", d.make(0, 1, 11, 0), OK);
        d = noted(2048);
        d.prefer(1, 1);
        due.is("noting: 0 was not", d.make(0, 1, 0, 0), OK);
        due.is("noting: so it is the place's", d.known(0, 1, 0, 0), 4);
        due.is("noting: 11 was PREFERRED", d.make(0, 1, 11, 0), PROHIBITED);
    }

    /** The same: it is to LOAD, also if an ERROR is given */
    private static void notesAtAnError() {
        int[] names = {7, 8, 6, 5, 4};
        int[] errors = {NOTFOUND, PROHIBITED, SPOILED, CIRCLE, INIT};
        for (int i = 0; i < names.length; i++) {
            RemoteDesk d = new RemoteDesk();
            d.offer(1, 8, -1, 0, 1, 0);
            d.offer(1, 6, -1, 0, 3, 0);
            d.offer(1, 5, 5, 0, 1, 0);
            d.offer(1, 4, -1, 0, 5, 0);
            d.offer(1, 0, -1, 0, 1, 0);
            d.offer(4, 0, -1, 0, 1, 0);
            d.prefer(1, 1);
            due.is("noting: an ERROR", d.make(0, 1, names[i], 0), errors[i]);
            d.prefer(1, 0);
            d.make(0, 1, 0, 0);
            due.is("noting: by the first LOADING, which gave " + errors[i], d.known(0, 1, 0, 0), 1);
        }
    }

    /** The same: READING LOADS, too */
    private static void notesWhenReading() {
        RemoteDesk d = new RemoteDesk();
        d.offer(4, 0, -1, 0, 1, 0);
        d.offer(5, 0, -1, 0, 1, 0);
        d.offer(5, 1, -1, 0, 1, 0);
        d.offer(2, 1, -1, 0, 1, 0);
        d.make(1, 4, 0, 0);
        d.bind(1, 0, 0);
        d.lookup(0, 1, 0, 0);
        d.make(0, 4, 0, 1);
        d.annotate(0, 2);
        d.prefer(2, 2);
        due.is("noting: by READING", d.call(0, 0, 3, 1, 2), OK);
        d.prefer(2, 0);
        d.make(1, 2, 1, 1);
        due.is("noting: at place 1", d.known(1, 2, 1, 0), 2);
        d.offer(4, 1, -1, 0, 1, 0);
        d.make(0, 2, 1, 1);
        due.is("noting: not at place 0, where LOADER 2 had nothing to READ", d.known(0, 2, 1, 0), 4);
    }

    /** The same: each LOADER notes for itself, at each place */
    private static void notesForItselfAlone() {
        RemoteDesk d = new RemoteDesk();
        for (int at = 0; at < 7; at++) {
            d.offer(at, 0, -1, 0, 1, 0);
        }
        for (int p = 0; p < 3; p++) {
            for (int c = 0; c < 4; c++) {
                d.prefer(c, (p + c) % 2);
                d.make(p, c, 7, 0);
                d.prefer(c, (p + c + 1) % 2);
            }
        }
        for (int p = 0; p < 3; p++) {
            for (int c = 0; c < 4; c++) {
                d.make(p, c, 0, 0);
                due.is("noting: LOADER " + c + " of place " + p, d.known(p, c, 0, 0), (p + c) % 2 == 1 ? c : 4);
            }
        }
    }

    /** The same: what does not LOAD by it does not note */
    private static void othersDoNotNote() {
        RemoteDesk d = new RemoteDesk();
        d.offer(4, 0, -1, 0, 1, 0);
        d.offer(0, 0, -1, 0, 1, 0);
        d.known(0, 0, 0, 0);
        d.make(0, 4, 0, 0);
        d.make(0, 0, 0, 4);
        d.make(0, 0, 0, -1);
        d.make(0, 0, 12, 0);
        d.make(0, 0, -1, 0);
        d.make(0, 1, 0, 0);
        d.make(1, 0, 0, 0);
        d.prefer(0, 1);
        d.make(0, 0, 0, 0);
        due.is("noting: not by LOADER 4, BAD calls, others", d.known(0, 0, 0, 0), 0);
    }

    /** "LOADER 0..3, the name is not PREFERRED, and the place has a DEFINITION of it: what LOADING it by LOADER 4 gives" */
    private static void prefersOrNot() {
        for (int name = 0; name < 12; name++) {
            for (int bits = 0; bits < 8; bits++) {
                boolean isPreferred = (bits & 1) != 0;
                boolean placeHas = (bits & 2) != 0;
                boolean codebaseHas = (bits & 4) != 0;
                RemoteDesk d = new RemoteDesk();
                d.prefer(3, isPreferred ? 1 << name : 4095 - (1 << name));
                if (placeHas) {
                    d.offer(6, name, -1, 0, 1, 0);
                }
                if (codebaseHas) {
                    d.offer(3, name, -1, 0, 1, 0);
                }
                boolean isOwn = placeHas && !isPreferred;
                int want = isOwn ? OK : !codebaseHas ? NOTFOUND : name > 7 ? PROHIBITED : OK;
                String what = "PREFERRED " + isPreferred + ", place " + placeHas + ", CODEBASE " + codebaseHas + ", name " + name;
                due.is(what, d.make(2, 3, name, 0), want);
                due.is(what + ": DEFINED by", d.known(2, 3, name, 0), want != OK ? BAD : isOwn ? 4 : 3);
                due.is(what + ": LOADER 4 KNOWS it", d.known(2, 4, name, 0), isOwn ? 4 : BAD);
            }
        }
    }

    /** "if that is a class, it KNOWS it from then on" */
    private static void knowsWhatTheOwnLoaderGave() {
        RemoteDesk d = new RemoteDesk();
        d.offer(4, 2, 1, 3, 1, 2);
        d.offer(4, 1, -1, 0, 1, 0);
        d.offer(0, 2, -1, 0, 1, 0);
        due.is("KNOWS: LOADED by LOADER 4", d.make(0, 0, 2, 0), OK);
        due.is("KNOWS: the same class", d.state(0, 1), 2);
        d.withdraw(4, 2);
        due.is("KNOWS: from then on", d.make(0, 0, 2, 0), OK);
        int[] want = {4, READY, 3, 1, 2, 1};
        for (int what = 0; what < 6; what++) {
            due.is("KNOWS: what " + what, d.known(0, 0, 2, what), want[what]);
        }
        due.is("KNOWS: its PARENT is LOADER 4's, and LOADER 0 does not KNOW it", d.known(0, 0, 1, 0), BAD);
        due.is("KNOWS: LOADER 1 does not", d.known(0, 1, 2, 0), BAD);
    }

    /** The same: "if that is a class" */
    private static void doesNotKnowAnError() {
        RemoteDesk d = new RemoteDesk();
        d.offer(4, 2, 2, 0, 1, 0);
        d.offer(0, 2, -1, 0, 1, 0);
        due.is("LOADER 4 gives CIRCLE", d.make(0, 0, 2, 0), CIRCLE);
        due.is("so LOADER 0 KNOWS none", d.known(0, 0, 2, 0), BAD);
        d.offer(4, 2, -1, 0, 1, 0);
        due.is("later LOADER 4 gives a class", d.make(0, 0, 2, 0), OK);
        due.is("which is its own", d.known(0, 0, 2, 0), 4);
    }

    /** "what LOADING it by LOADER 4 gives": by the rules of that LOADER */
    private static void ownLoaderGivesItsErrors() {
        RemoteDesk d = new RemoteDesk();
        d.offer(4, 11, 10, 0, 3, 0);
        d.offer(0, 10, -1, 0, 1, 0);
        due.is("LOADER 4: the PARENT is to be its own", d.make(0, 0, 11, 0), NOTFOUND);
        d.offer(4, 10, -1, 0, 7, 1);
        due.is("LOADER 4: nor PROHIBITED nor SPOILED nor SIGNERS", d.make(0, 0, 11, 0), INIT);
        due.is("LOADER 4: it is KNOWN", d.known(0, 0, 11, 0), 4);
        due.is("LOADER 4: and BROKEN", d.known(0, 0, 11, 1), BROKEN);
    }

    /** "The CODEBASE (of 4: the place) has no DEFINITION: NOTFOUND." */
    private static void notFound() {
        for (int p = 0; p < 3; p++) {
            for (int loader = 0; loader < 5; loader++) {
                RemoteDesk d = new RemoteDesk();
                for (int at = 0; at < 7; at++) {
                    if (at != loader && at != 4 + p) {
                        d.offer(at, 0, -1, 0, 1, 0);
                    }
                }
                for (int name = 0; name < 12; name += 11) {
                    due.is("NOTFOUND: LOADER " + loader + " of " + p, d.make(p, loader, name, 0), NOTFOUND);
                }
                due.is("NOTFOUND: nothing DEFINED", d.state(p, 1), 0);
            }
        }
    }

    /** "LOADER 0..3, and the name is above 7: PROHIBITED." */
    private static void prohibited() {
        for (int loader = 0; loader < 5; loader++) {
            RemoteDesk d = new RemoteDesk();
            for (int name = 0; name < 12; name++) {
                d.offer(loader, name, -1, 0, 1, 0);
                due.is("PROHIBITED: LOADER " + loader + ", name " + name, d.make(0, loader, name, 0), loader < 4 && name > 7 ? PROHIBITED : OK);
            }
        }
    }

    /** "LOADER 0..3, and it is SPOILED: SPOILED." */
    private static void spoiled() {
        for (int loader = 0; loader < 5; loader++) {
            RemoteDesk d = new RemoteDesk();
            d.offer(loader, 0, -1, 0, 3, 0);
            due.is("SPOILED: LOADER " + loader, d.make(0, loader, 0, 0), loader < 4 ? SPOILED : OK);
            due.is("SPOILED: classes", d.state(0, 1), loader < 4 ? 0 : 1);
        }
    }

    /** "(or the name itself): CIRCLE" */
    private static void circleOfItself() {
        for (int loader = 0; loader < 5; loader++) {
            for (int name = 0; name < (loader < 4 ? 8 : 12); name++) {
                RemoteDesk d = new RemoteDesk();
                d.offer(loader, name, name, 0, 1, 0);
                due.is("CIRCLE: itself", d.make(0, loader, name, 0), CIRCLE);
                due.is("CIRCLE: not KNOWN", d.known(0, loader, name, 0), BAD);
            }
        }
    }

    /** "The PARENT is a name that it is just LOADING: CIRCLE" */
    private static void circlesOfAllLengths() {
        for (int loader = 3; loader < 5; loader++) {
            for (int length = 2; length <= (loader < 4 ? 8 : 12); length++) {
                RemoteDesk d = new RemoteDesk();
                for (int name = 0; name < length; name++) {
                    d.offer(loader, name, (name + 1) % length, 0, 1, 0);
                }
                for (int name = 0; name < length; name++) {
                    due.is("CIRCLE: of " + length, d.make(0, loader, name, 0), CIRCLE);
                }
                due.is("CIRCLE: no class", d.state(0, 1), 0);
                d.offer(loader, length - 1, -1, 0, 1, 0);
                due.is("CIRCLE: a chain of " + length + " is none", d.make(0, loader, 0, 0), OK);
                due.is("CIRCLE: its classes", d.state(0, 1), length);
            }
        }
    }

    /** The same, for a name that is not the first */
    private static void circleBehindOthers() {
        RemoteDesk d = new RemoteDesk();
        for (int name = 0; name < 8; name++) {
            d.offer(2, name, name == 7 ? 7 : name + 1, 0, 1, 0);
        }
        due.is("CIRCLE: of the last one with itself", d.make(1, 2, 0, 0), CIRCLE);
        d.offer(2, 7, 4, 0, 1, 0);
        due.is("CIRCLE: of the last four", d.make(1, 2, 0, 0), CIRCLE);
        due.is("CIRCLE: no class", d.state(1, 1), 0);
    }

    /** The same: what it KNOWS it is not just LOADING */
    private static void noCircleThroughWhatIsKnown() {
        RemoteDesk d = new RemoteDesk();
        d.offer(0, 0, -1, 0, 1, 0);
        d.make(0, 0, 0, 0);
        d.offer(0, 0, 1, 0, 1, 0);
        d.offer(0, 1, 0, 0, 1, 0);
        due.is("CIRCLE: not through a class that it KNOWS", d.make(0, 0, 1, 0), OK);
        due.is("CIRCLE: its PARENT", d.known(0, 0, 1, 5), 0);
        due.is("CIRCLE: that has none", d.known(0, 0, 0, 5), BAD);
    }

    /** The same: "that it is just LOADING", not another LOADER */
    private static void noCircleOfAnotherLoader() {
        RemoteDesk d = new RemoteDesk();
        d.prefer(1, 1);
        d.offer(1, 0, 1, 0, 1, 0);
        d.offer(4, 1, 0, 0, 1, 0);
        d.offer(4, 0, -1, 0, 1, 0);
        due.is("CIRCLE: LOADER 4 is not LOADING 0", d.make(0, 1, 0, 0), OK);
        due.is("CIRCLE: 0 by LOADER 1", d.known(0, 1, 0, 0), 1);
        due.is("CIRCLE: 0 by LOADER 4", d.known(0, 4, 0, 0), 4);
        due.is("CIRCLE: three classes", d.state(0, 1), 3);
    }

    /** The same: after an ERROR it is not LOADING any more */
    private static void noCircleAfterAnError() {
        RemoteDesk d = new RemoteDesk();
        d.offer(0, 0, 1, 0, 1, 0);
        d.offer(0, 1, 2, 0, 1, 0);
        due.is("CIRCLE: an ERROR ends LOADING", d.make(0, 0, 0, 0), NOTFOUND);
        d.offer(0, 2, -1, 0, 1, 0);
        due.is("CIRCLE: none of the names is LOADED any more", d.make(0, 0, 1, 0), OK);
        d.offer(0, 3, 0, 0, 1, 0);
        due.is("CIRCLE: none", d.make(0, 0, 3, 0), OK);
    }

    /** "LOADING the PARENT by the same LOADER gives an ERROR: that." */
    private static void parentsErrors() {
        int[] errors = {NOTFOUND, PROHIBITED, SPOILED, CIRCLE, SIGNERS};
        int[] parents = {3, 8, 5, 6, 4};
        for (int i = 0; i < errors.length; i++) {
            RemoteDesk d = new RemoteDesk();
            d.offer(0, 8, -1, 0, 1, 0);
            d.offer(0, 5, -1, 0, 3, 0);
            d.offer(0, 6, 6, 0, 1, 0);
            d.offer(0, 7, -1, 0, 1, 0);
            d.make(0, 0, 7, 0);
            d.offer(0, 4, -1, 0, 1, 1);
            d.offer(0, 1, parents[i], 0, 1, 0);
            d.offer(0, 0, 1, 0, 1, 0);
            due.is("PARENT: its ERROR", d.make(0, 0, 1, 0), errors[i]);
            due.is("PARENT: that of its PARENT", d.make(0, 0, 0, 0), errors[i]);
            due.is("PARENT: name 7 alone has a class", d.state(0, 1), 1);
        }
    }

    /** "LOADING the PARENT by the same LOADER" */
    private static void parentByTheSameLoader() {
        RemoteDesk d = new RemoteDesk();
        d.offer(0, 0, 1, 0, 1, 0);
        d.offer(1, 1, -1, 0, 1, 0);
        due.is("PARENT: not by another LOADER", d.make(0, 0, 0, 0), NOTFOUND);
        d.offer(5, 1, -1, 0, 1, 0);
        due.is("PARENT: not of another place", d.make(0, 0, 0, 0), NOTFOUND);
        d.offer(4, 1, -1, 0, 1, 0);
        due.is("PARENT: what LOADER 0 gets from LOADER 4", d.make(0, 0, 0, 0), OK);
        due.is("PARENT: LOADER 0 KNOWS it", d.known(0, 0, 1, 0), 4);
        d = new RemoteDesk();
        d.offer(4, 0, 1, 0, 1, 0);
        d.offer(0, 1, -1, 0, 1, 0);
        due.is("PARENT: LOADER 4 does not ask others", d.make(0, 4, 0, 0), NOTFOUND);
    }

    /** "by the first of these that is so": each two that can be so at once */
    private static void orderOfErrors() {
        RemoteDesk d = new RemoteDesk();
        due.is("order: NOTFOUND before PROHIBITED", d.make(0, 0, 11, 0), NOTFOUND);
        d.offer(0, 8, -1, 0, 3, 0);
        due.is("order: PROHIBITED before SPOILED", d.make(0, 0, 8, 0), PROHIBITED);
        d.offer(0, 8, 8, 0, 1, 0);
        due.is("order: PROHIBITED before CIRCLE", d.make(0, 0, 8, 0), PROHIBITED);
        d.offer(0, 8, 7, 0, 1, 0);
        due.is("order: PROHIBITED before the PARENT's", d.make(0, 0, 8, 0), PROHIBITED);
        d.offer(0, 3, 3, 0, 3, 0);
        due.is("order: SPOILED before CIRCLE", d.make(0, 0, 3, 0), SPOILED);
        d.offer(0, 3, 2, 0, 3, 0);
        due.is("order: SPOILED before the PARENT's", d.make(0, 0, 3, 0), SPOILED);
        d.offer(0, 0, -1, 0, 1, 1);
        d.make(0, 0, 0, 0);
        d.offer(0, 3, -1, 0, 3, 0);
        due.is("order: SPOILED before SIGNERS", d.make(0, 0, 3, 0), SPOILED);
        d.offer(0, 3, 3, 0, 1, 0);
        due.is("order: CIRCLE before SIGNERS", d.make(0, 0, 3, 0), CIRCLE);
        d.offer(0, 3, 2, 0, 1, 0);
        due.is("order: the PARENT's before SIGNERS", d.make(0, 0, 3, 0), NOTFOUND);
        d.offer(0, 2, -1, 0, 7, 1);
        due.is("order: the PARENT's before SIGNERS", d.make(0, 0, 3, 0), SPOILED);
        d.offer(0, 2, -1, 0, 5, 1);
        due.is("order: SIGNERS, and the PARENT is not READIED", d.make(0, 0, 3, 0), SIGNERS);
        due.is("order: it is FRESH", d.known(0, 0, 2, 1), FRESH);
    }

    /** "LOADER 0..3 has DEFINED a class of the same PACKAGE with another SIGNER": its PARENT's, too, which stays */
    private static void parentIsDefinedBeforeSigners() {
        RemoteDesk d = new RemoteDesk();
        d.offer(1, 4, 5, 0, 1, 2);
        d.offer(1, 5, -1, 0, 1, 3);
        due.is("SIGNERS: of its own PARENT", d.make(0, 1, 4, 0), SIGNERS);
        due.is("SIGNERS: which is DEFINED", d.known(0, 1, 5, 4), 3);
        due.is("SIGNERS: one class", d.state(0, 1), 1);
        due.is("SIGNERS: no object", d.state(0, 0), 0);
        d.offer(1, 4, 5, 0, 1, 3);
        due.is("SIGNERS: the same one now", d.make(0, 1, 4, 0), OK);
    }

    /** The same, for all SIGNERS */
    private static void signersOfAll() {
        for (int a = 0; a < 4; a++) {
            for (int b = 0; b < 4; b++) {
                for (int loader = 0; loader < 5; loader++) {
                    RemoteDesk d = new RemoteDesk();
                    d.offer(loader, 4, -1, 0, 1, a);
                    d.offer(loader, 7, -1, 0, 1, b);
                    d.make(0, loader, 4, 0);
                    due.is("SIGNERS: " + a + ", " + b + " at " + loader, d.make(0, loader, 7, 0), a != b && loader < 4 ? SIGNERS : OK);
                }
            }
        }
    }

    /** The same: "has DEFINED", not only KNOWS, nor only may DEFINE */
    private static void signersOfWhatWasDefined() {
        RemoteDesk d = new RemoteDesk();
        d.offer(0, 1, -1, 0, 1, 1);
        d.offer(0, 2, -1, 0, 1, 2);
        d.offer(4, 0, -1, 0, 1, 0);
        d.make(0, 0, 0, 0);
        due.is("SIGNERS: what LOADER 4 DEFINED is not counted", d.make(0, 0, 1, 0), OK);
        due.is("SIGNERS: 1 is", d.make(0, 0, 2, 0), SIGNERS);
        d.withdraw(0, 1);
        due.is("SIGNERS: without its DEFINITION, too", d.make(0, 0, 2, 0), SIGNERS);
        d.offer(0, 1, -1, 0, 1, 2);
        due.is("SIGNERS: and with another one", d.make(0, 0, 2, 0), SIGNERS);
        due.is("SIGNERS: at another place nothing is DEFINED", d.make(1, 0, 2, 0), OK);
        d.offer(3, 2, -1, 0, 1, 3);
        due.is("SIGNERS: nor by another LOADER", d.make(0, 3, 2, 0), OK);
        d.offer(0, 3, -1, 0, 5, 3);
        d.offer(0, 7, -1, 0, 5, 0);
        due.is("SIGNERS: a BROKEN class", d.make(0, 0, 7, 0), INIT);
        d.offer(0, 6, -1, 0, 1, 1);
        due.is("SIGNERS: is DEFINED", d.make(0, 0, 6, 0), SIGNERS);
    }

    /** "Else it DEFINES the class by the DEFINITION, as it is then" */
    private static void definedAsItIsThen() {
        RemoteDesk d = new RemoteDesk();
        d.offer(0, 1, 0, 1, 1, 1);
        d.offer(0, 0, -1, 0, 1, 2);
        d.offer(0, 1, 2, 2, 0, 2);
        d.offer(0, 2, -1, 3, 1, 2);
        d.make(0, 0, 1, 0);
        d.offer(0, 1, -1, 3, 7, 3);
        d.withdraw(0, 2);
        int[] want = {0, READY, 2, 0, 2, 2};
        for (int what = 0; what < 6; what++) {
            due.is("DEFINED: what " + what, d.known(0, 0, 1, what), want[what]);
        }
        due.is("DEFINED: name 0 is not LOADED", d.known(0, 0, 0, 0), BAD);
        due.is("DEFINED: at another place by the new one", d.make(1, 0, 1, 0), SPOILED);
        due.is("DEFINED: its objects are as before", d.look(0, 0, 0, 0, 1), 0);
        due.is("DEFINED: CELL 1 is a REF", d.walk(0, 0, 1), true);
    }

    /** "To READY one: nothing if it is READY" */
    private static void readyTwice() {
        RemoteDesk d = new RemoteDesk();
        d.offer(4, 0, 1, 0, 1, 0);
        d.offer(4, 1, -1, 0, 1, 0);
        due.is("READY: first", d.make(0, 4, 0, 0), OK);
        d.offer(4, 0, 1, 0, 5, 0);
        d.offer(4, 1, -1, 0, 5, 0);
        due.is("READY: stays so", d.make(0, 4, 0, 0), OK);
        due.is("READY: its PARENT, too", d.make(0, 4, 1, 0), OK);
        status("READY: it is", d, 4, 0, READY);
        status("READY: its PARENT is", d, 4, 1, READY);
    }

    /** "else if it is FAILING it is BROKEN, and INIT is given"; then "GONE if it is BROKEN" */
    private static void failing() {
        RemoteDesk d = new RemoteDesk();
        d.offer(4, 0, 1, 0, 5, 0);
        d.offer(4, 1, -1, 0, 1, 0);
        due.is("FAILING: INIT", d.make(0, 4, 0, 0), INIT);
        status("FAILING: BROKEN", d, 4, 0, BROKEN);
        status("FAILING: its PARENT is READY", d, 4, 1, READY);
        due.is("FAILING: GONE", d.make(0, 4, 0, 0), GONE);
        due.is("FAILING: GONE, always", d.make(0, 4, 0, 0), GONE);
        d.offer(4, 0, 1, 0, 1, 0);
        due.is("FAILING: also with another DEFINITION", d.make(0, 4, 0, 0), GONE);
        due.is("FAILING: the PARENT's objects may be made", d.make(0, 4, 1, 0), OK);
        due.is("FAILING: one object", d.state(0, 0), 1);
    }

    /** "first its PARENT's class is READIED; if that gives an ERROR it is BROKEN, too, and that ERROR is given" */
    private static void failingParent() {
        RemoteDesk d = new RemoteDesk();
        d.offer(4, 0, 1, 0, 1, 0);
        d.offer(4, 1, 2, 0, 5, 0);
        d.offer(4, 2, -1, 0, 5, 0);
        due.is("PARENT FAILING: INIT", d.make(0, 4, 0, 0), INIT);
        for (int name = 0; name < 3; name++) {
            status("PARENT FAILING: BROKEN, too", d, 4, name, BROKEN);
            due.is("PARENT FAILING: GONE", d.make(0, 4, name, 0), GONE);
        }
    }

    /** The same: of a BROKEN one that ERROR is GONE, also for one that is FAILING */
    private static void brokenParent() {
        RemoteDesk d = new RemoteDesk();
        d.offer(4, 0, -1, 0, 5, 0);
        d.make(0, 4, 0, 0);
        d.offer(4, 1, 0, 0, 5, 0);
        due.is("PARENT BROKEN: GONE, not INIT", d.make(0, 4, 1, 0), GONE);
        status("PARENT BROKEN: BROKEN, too", d, 4, 1, BROKEN);
        d.offer(4, 2, 0, 0, 1, 0);
        d.offer(4, 3, 2, 0, 1, 0);
        due.is("PARENT BROKEN: GONE through one that is FRESH", d.make(0, 4, 3, 0), GONE);
        status("PARENT BROKEN: that is BROKEN", d, 4, 2, BROKEN);
        status("PARENT BROKEN: this, too", d, 4, 3, BROKEN);
    }

    /** The same, through all names of two LOADERS */
    private static void brokenFarAway() {
        RemoteDesk d = new RemoteDesk();
        d.prefer(0, 255);
        for (int name = 0; name < 8; name++) {
            d.offer(0, name, name == 7 ? 11 : name + 1, 0, 1, 0);
        }
        for (int name = 0; name < 12; name++) {
            d.offer(4, name, name - 1, 0, name == 0 ? 5 : 1, 0);
        }
        due.is("PARENT FAILING: 19 classes away", d.make(0, 0, 0, 0), INIT);
        for (int name = 0; name < 8; name++) {
            status("PARENT FAILING: BROKEN, LOADER 0", d, 0, name, BROKEN);
        }
        for (int name = 0; name < 12; name++) {
            status("PARENT FAILING: BROKEN, LOADER 4", d, 4, name, BROKEN);
        }
    }

    /** "A class is FRESH, READY or BROKEN.": LOADING alone leaves it FRESH */
    private static void freshUntilReadied() {
        RemoteDesk d = new RemoteDesk();
        d.offer(4, 0, 1, 0, 1, 0);
        d.offer(4, 1, -1, 0, 1, 0);
        d.offer(5, 0, -1, 1, 1, 0);
        d.offer(5, 1, -1, 1, 1, 0);
        d.make(0, 4, 1, 0);
        d.bind(0, 0, 0);
        d.lookup(1, 0, 0, 0);
        d.make(1, 4, 0, 1);
        due.is("FRESH: WRONG comes before READYING", d.call(1, 0, 3, 1, 2), WRONG);
        status("FRESH: it is", d, 4, 0, FRESH);
        status("FRESH: its PARENT was READY", d, 4, 1, READY);
        due.is("FRESH: READIED later", d.make(0, 4, 0, 1), OK);
        status("FRESH: now READY", d, 4, 0, READY);
    }

    /** The same: classes of one name by several LOADERS are several classes */
    private static void brokenForOneLoaderAlone() {
        RemoteDesk d = new RemoteDesk();
        d.offer(0, 0, -1, 0, 5, 0);
        d.offer(1, 0, -1, 0, 1, 0);
        due.is("BROKEN: by LOADER 0", d.make(0, 0, 0, 0), INIT);
        due.is("BROKEN: not by LOADER 1", d.make(0, 1, 0, 0), OK);
        d.offer(0, 0, -1, 0, 1, 0);
        due.is("BROKEN: not at place 1", d.make(1, 0, 0, 0), OK);
        due.is("BROKEN: still at place 0", d.make(0, 0, 0, 0), GONE);
    }

    /** Promise 22: "how many classes its LOADERS DEFINED" */
    private static void oneClassOfEach() {
        for (int p = 0; p < 3; p++) {
            for (int loader = 0; loader < 5; loader++) {
                for (int name = 0; name < (loader < 4 ? 8 : 12); name++) {
                    RemoteDesk d = new RemoteDesk();
                    d.offer(loader < 4 ? loader : 4 + p, name, -1, 0, 1, 0);
                    d.make(p, loader, name, 0);
                    for (int other = 0; other < 3; other++) {
                        due.is("22: classes at " + other, d.state(other, 1), other == p ? 1 : 0);
                    }
                }
            }
        }
    }

    /** The same: all that can be, 8 by each of LOADERS 0..3 and 12 by LOADER 4 */
    private static void allClasses() {
        RemoteDesk d = new RemoteDesk();
        int classes = 0;
        for (int name = 0; name < 12; name++) {
            for (int at = 0; at < 5; at++) {
                d.prefer(at, 255);
                d.offer(at, name, name - 1, 0, 1, 0);
                classes += at == 4 || name < 8 ? 1 : 0;
                d.make(0, at, name, 0);
                due.is("22: classes", d.state(0, 1), classes);
            }
        }
        due.is("22: all", classes, 44);
        for (int loader = 0; loader < 5; loader++) {
            for (int name = 0; name < 12; name++) {
                due.is("20: DEFINED by", d.known(0, loader, name, 0), name > 7 ? loader < 4 ? BAD : 4 : loader);
            }
        }
    }
}
