/** Calls by name, of SunPoint and of the Model. */
final class Calls {
    private Calls() {
    }

    static long ofSun(SunPoint sun, String name, int a, int b) {
        switch (name) {
            case "text":
                return sun.text(a);
            case "fault":
                return sun.fault(a);
            case "ticks":
                return sun.ticks(a);
            case "light":
                return sun.light(a, b);
            case "grid":
                return sun.grid(a);
            case "tune":
                return sun.tune(a);
            case "scan":
                return sun.scan();
            case "told":
                return sun.told(a);
            case "settle":
                return sun.settle(a, b);
            case "module":
                return sun.module(a, b);
            case "volts":
                return sun.volts(a);
            case "power":
                return sun.power(a);
            case "tops":
                return sun.tops();
            case "top":
                return sun.top(a, b);
            case "best":
                return sun.best(a);
            case "band":
                return sun.band(a, b);
            case "climbed":
                return sun.climbed(a);
            case "shadeOf":
                return sun.shadeOf(a);
            case "lightFor":
                return sun.lightFor(a, b);
            case "darkest":
                return sun.darkest();
            case "now":
                return sun.now(a);
            case "sum":
                return sun.sum(a);
            case "past":
                return sun.past(a, b);
            case "near":
                return sun.near(a);
            case "longestAway":
                return sun.longestAway(a);
            case "ripple":
                return sun.ripple(a);
            case "average":
                return sun.average(a);
            case "worst":
                return sun.worst(a);
            case "comes":
                return sun.comes(a, b);
            case "cancel":
                return sun.cancel(a);
            case "ifTicks":
                return sun.ifTicks(a, b);
            case "firstSeen":
                return sun.firstSeen(a);
            case "firstFloat":
                return sun.firstFloat(a);
            case "leastPush":
                return sun.leastPush(a);
            case "bestStep":
                return sun.bestStep(a);
            case "bestWay":
                return sun.bestWay(a);
            case "bestShare":
                return sun.bestShare();
            case "slope":
                return sun.slope(a);
            case "firstFull":
                return sun.firstFull(a);
            case "seenBy":
                return sun.seenBy(a, b);
            case "blind":
                return sun.blind(a);
            case "bestGap":
                return sun.bestGap(a);
            case "ifNear":
                return sun.ifNear(a, b);
            case "count":
                return sun.count(a);
            default:
                throw new IllegalArgumentException(name);
        }
    }

    static long ofModel(Model model, String name, int a, int b) {
        switch (name) {
            case "text":
                return model.text(a);
            case "fault":
                return model.fault(a);
            case "ticks":
                return model.ticks(a);
            case "light":
                return model.light(a, b);
            case "grid":
                return model.grid(a);
            case "tune":
                return model.tune(a);
            case "scan":
                return model.scan();
            case "told":
                return model.told(a);
            case "settle":
                return model.settle(a, b);
            case "module":
                return model.module(a, b);
            case "volts":
                return model.volts(a);
            case "power":
                return model.power(a);
            case "tops":
                return model.tops();
            case "top":
                return model.top(a, b);
            case "best":
                return model.best(a);
            case "band":
                return model.band(a, b);
            case "climbed":
                return model.climbed(a);
            case "shadeOf":
                return model.shadeOf(a);
            case "lightFor":
                return model.lightFor(a, b);
            case "darkest":
                return model.darkest();
            case "now":
                return model.now(a);
            case "sum":
                return model.sum(a);
            case "past":
                return model.past(a, b);
            case "near":
                return model.near(a);
            case "longestAway":
                return model.longestAway(a);
            case "ripple":
                return model.ripple(a);
            case "average":
                return model.average(a);
            case "worst":
                return model.worst(a);
            case "comes":
                return model.comes(a, b);
            case "cancel":
                return model.cancel(a);
            case "ifTicks":
                return model.ifTicks(a, b);
            case "firstSeen":
                return model.firstSeen(a);
            case "firstFloat":
                return model.firstFloat(a);
            case "leastPush":
                return model.leastPush(a);
            case "bestStep":
                return model.bestStep(a);
            case "bestWay":
                return model.bestWay(a);
            case "bestShare":
                return model.bestShare();
            case "slope":
                return model.slope(a);
            case "firstFull":
                return model.firstFull(a);
            case "seenBy":
                return model.seenBy(a, b);
            case "blind":
                return model.blind(a);
            case "bestGap":
                return model.bestGap(a);
            case "ifNear":
                return model.ifNear(a, b);
            case "count":
                return model.count(a);
            default:
                throw new IllegalArgumentException(name);
        }
    }
}
